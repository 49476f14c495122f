section
-- ===== PART A: goes FIRST, ahead of the names: the tables' words, and 'selects' of the private methods out of them =====
/-- a private method of a class that the tables say can be made, by its rows of tables_1 -/
def lw_okq (q : MethodName × Nat) : Prop := (q.1.cls ≠ "java/lang/invoke/MethodHandle" ∧ q.1.cls ≠ "java/lang/invoke/VarHandle") ∧ Cond.instantiable q.1.cls q.2 ∈ tables_1 ∧ Cond.privateMethod q.1 ∈ tables_1 ∧ Cond.instanceMethod q.1 ∈ tables_1
theorem lw_p0 : lw_okq (⟨"PipelineSimulator$Reader", "sign", "()I"⟩, 9) := ⟨⟨by decide +kernel, by decide +kernel⟩, List.mem_of_getElem? (i := 68) (by decide +kernel), List.mem_of_getElem? (i := 592) (by decide +kernel), List.mem_of_getElem? (i := 593) (by decide +kernel)⟩
theorem lw_p1 : lw_okq (⟨"PipelineSimulator$Reader", "readStages", "()Z"⟩, 9) := ⟨⟨by decide +kernel, by decide +kernel⟩, List.mem_of_getElem? (i := 68) (by decide +kernel), List.mem_of_getElem? (i := 609) (by decide +kernel), List.mem_of_getElem? (i := 610) (by decide +kernel)⟩
theorem lw_p2 : lw_okq (⟨"PipelineSimulator$Reader", "readStage", "(I)Z"⟩, 9) := ⟨⟨by decide +kernel, by decide +kernel⟩, List.mem_of_getElem? (i := 68) (by decide +kernel), List.mem_of_getElem? (i := 613) (by decide +kernel), List.mem_of_getElem? (i := 614) (by decide +kernel)⟩
theorem lw_p3 : lw_okq (⟨"PipelineSimulator$Reader", "skip", "(C)Z"⟩, 9) := ⟨⟨by decide +kernel, by decide +kernel⟩, List.mem_of_getElem? (i := 68) (by decide +kernel), List.mem_of_getElem? (i := 689) (by decide +kernel), List.mem_of_getElem? (i := 690) (by decide +kernel)⟩
theorem lw_p4 : lw_okq (⟨"PipelineSimulator$Reader", "readNumber", "()Z"⟩, 9) := ⟨⟨by decide +kernel, by decide +kernel⟩, List.mem_of_getElem? (i := 68) (by decide +kernel), List.mem_of_getElem? (i := 693) (by decide +kernel), List.mem_of_getElem? (i := 694) (by decide +kernel)⟩
theorem lw_p5 : lw_okq (⟨"PipelineSimulator$Reader", "atDigit", "()Z"⟩, 9) := ⟨⟨by decide +kernel, by decide +kernel⟩, List.mem_of_getElem? (i := 68) (by decide +kernel), List.mem_of_getElem? (i := 697) (by decide +kernel), List.mem_of_getElem? (i := 698) (by decide +kernel)⟩
theorem lw_p6 : lw_okq (⟨"PipelineSimulator$Reader", "inRange", "(I)Z"⟩, 9) := ⟨⟨by decide +kernel, by decide +kernel⟩, List.mem_of_getElem? (i := 68) (by decide +kernel), List.mem_of_getElem? (i := 701) (by decide +kernel), List.mem_of_getElem? (i := 702) (by decide +kernel)⟩
theorem lw_p7 : lw_okq (⟨"PipelineSimulator$Reader", "readInstances", "()I"⟩, 9) := ⟨⟨by decide +kernel, by decide +kernel⟩, List.mem_of_getElem? (i := 68) (by decide +kernel), List.mem_of_getElem? (i := 705) (by decide +kernel), List.mem_of_getElem? (i := 706) (by decide +kernel)⟩
theorem lw_p8 : lw_okq (⟨"PipelineSimulator$Reader", "atInstances", "()Z"⟩, 9) := ⟨⟨by decide +kernel, by decide +kernel⟩, List.mem_of_getElem? (i := 68) (by decide +kernel), List.mem_of_getElem? (i := 709) (by decide +kernel), List.mem_of_getElem? (i := 710) (by decide +kernel)⟩
theorem lw_p9 : lw_okq (⟨"PipelineSimulator$Simulation", "returnToSaved", "()V"⟩, 15) := ⟨⟨by decide +kernel, by decide +kernel⟩, List.mem_of_getElem? (i := 110) (by decide +kernel), List.mem_of_getElem? (i := 770) (by decide +kernel), List.mem_of_getElem? (i := 771) (by decide +kernel)⟩
theorem lw_p10 : lw_okq (⟨"PipelineSimulator$Channel", "closeOpen", "()V"⟩, 7) := ⟨⟨by decide +kernel, by decide +kernel⟩, List.mem_of_getElem? (i := 326) (by decide +kernel), List.mem_of_getElem? (i := 859) (by decide +kernel), List.mem_of_getElem? (i := 860) (by decide +kernel)⟩
theorem lw_p11 : lw_okq (⟨"PipelineSimulator$Channel", "enqueue", "(I)V"⟩, 7) := ⟨⟨by decide +kernel, by decide +kernel⟩, List.mem_of_getElem? (i := 326) (by decide +kernel), List.mem_of_getElem? (i := 863) (by decide +kernel), List.mem_of_getElem? (i := 864) (by decide +kernel)⟩
theorem lw_p12 : lw_okq (⟨"PipelineSimulator$Simulation", "work", "(II)V"⟩, 15) := ⟨⟨by decide +kernel, by decide +kernel⟩, List.mem_of_getElem? (i := 110) (by decide +kernel), List.mem_of_getElem? (i := 867) (by decide +kernel), List.mem_of_getElem? (i := 868) (by decide +kernel)⟩
theorem lw_p13 : lw_okq (⟨"PipelineSimulator$Simulation", "sendList", "(IILPipelineSimulator$Instance;)Z"⟩, 15) := ⟨⟨by decide +kernel, by decide +kernel⟩, List.mem_of_getElem? (i := 110) (by decide +kernel), List.mem_of_getElem? (i := 871) (by decide +kernel), List.mem_of_getElem? (i := 872) (by decide +kernel)⟩
theorem lw_p14 : lw_okq (⟨"PipelineSimulator$Simulation", "sendBarrier", "(IILPipelineSimulator$Instance;)Z"⟩, 15) := ⟨⟨by decide +kernel, by decide +kernel⟩, List.mem_of_getElem? (i := 110) (by decide +kernel), List.mem_of_getElem? (i := 919) (by decide +kernel), List.mem_of_getElem? (i := 920) (by decide +kernel)⟩
theorem lw_p15 : lw_okq (⟨"PipelineSimulator$Simulation", "takeInput", "(LPipelineSimulator$Operator;LPipelineSimulator$Instance;)Z"⟩, 15) := ⟨⟨by decide +kernel, by decide +kernel⟩, List.mem_of_getElem? (i := 110) (by decide +kernel), List.mem_of_getElem? (i := 935) (by decide +kernel), List.mem_of_getElem? (i := 936) (by decide +kernel)⟩
def lw_privs_1 : List (MethodName × Nat) := [(⟨"PipelineSimulator$Reader", "sign", "()I"⟩, 9), (⟨"PipelineSimulator$Reader", "readStages", "()Z"⟩, 9), (⟨"PipelineSimulator$Reader", "readStage", "(I)Z"⟩, 9), (⟨"PipelineSimulator$Reader", "skip", "(C)Z"⟩, 9), (⟨"PipelineSimulator$Reader", "readNumber", "()Z"⟩, 9), (⟨"PipelineSimulator$Reader", "atDigit", "()Z"⟩, 9), (⟨"PipelineSimulator$Reader", "inRange", "(I)Z"⟩, 9), (⟨"PipelineSimulator$Reader", "readInstances", "()I"⟩, 9), (⟨"PipelineSimulator$Reader", "atInstances", "()Z"⟩, 9), (⟨"PipelineSimulator$Simulation", "returnToSaved", "()V"⟩, 15), (⟨"PipelineSimulator$Channel", "closeOpen", "()V"⟩, 7), (⟨"PipelineSimulator$Channel", "enqueue", "(I)V"⟩, 7), (⟨"PipelineSimulator$Simulation", "work", "(II)V"⟩, 15), (⟨"PipelineSimulator$Simulation", "sendList", "(IILPipelineSimulator$Instance;)Z"⟩, 15), (⟨"PipelineSimulator$Simulation", "sendBarrier", "(IILPipelineSimulator$Instance;)Z"⟩, 15), (⟨"PipelineSimulator$Simulation", "takeInput", "(LPipelineSimulator$Operator;LPipelineSimulator$Instance;)Z"⟩, 15)]
theorem lw_r1 : ∀ q ∈ lw_privs_1, lw_okq q := List.forall_mem_cons.mpr ⟨lw_p0, List.forall_mem_cons.mpr ⟨lw_p1, List.forall_mem_cons.mpr ⟨lw_p2, List.forall_mem_cons.mpr ⟨lw_p3, List.forall_mem_cons.mpr ⟨lw_p4, List.forall_mem_cons.mpr ⟨lw_p5, List.forall_mem_cons.mpr ⟨lw_p6, List.forall_mem_cons.mpr ⟨lw_p7, List.forall_mem_cons.mpr ⟨lw_p8, List.forall_mem_cons.mpr ⟨lw_p9, List.forall_mem_cons.mpr ⟨lw_p10, List.forall_mem_cons.mpr ⟨lw_p11, List.forall_mem_cons.mpr ⟨lw_p12, List.forall_mem_cons.mpr ⟨lw_p13, List.forall_mem_cons.mpr ⟨lw_p14, List.forall_mem_cons.mpr ⟨lw_p15, fun _ h => absurd h List.not_mem_nil⟩⟩⟩⟩⟩⟩⟩⟩⟩⟩⟩⟩⟩⟩⟩⟩
theorem lw_p16 : lw_okq (⟨"PipelineSimulator$Simulation", "takeItem", "(IILPipelineSimulator$Operator;LPipelineSimulator$Instance;)Z"⟩, 15) := ⟨⟨by decide +kernel, by decide +kernel⟩, List.mem_of_getElem? (i := 110) (by decide +kernel), List.mem_of_getElem? (i := 940) (by decide +kernel), List.mem_of_getElem? (i := 941) (by decide +kernel)⟩
theorem lw_p17 : lw_okq (⟨"PipelineSimulator$Simulation", "saveInstance", "(ILPipelineSimulator$Operator;LPipelineSimulator$Instance;)V"⟩, 15) := ⟨⟨by decide +kernel, by decide +kernel⟩, List.mem_of_getElem? (i := 110) (by decide +kernel), List.mem_of_getElem? (i := 961) (by decide +kernel), List.mem_of_getElem? (i := 962) (by decide +kernel)⟩
theorem lw_p18 : lw_okq (⟨"PipelineSimulator$Operator", "passes", "(I)Z"⟩, 14) := ⟨⟨by decide +kernel, by decide +kernel⟩, List.mem_of_getElem? (i := 190) (by decide +kernel), List.mem_of_getElem? (i := 994) (by decide +kernel), List.mem_of_getElem? (i := 995) (by decide +kernel)⟩
theorem lw_p19 : lw_okq (⟨"PipelineSimulator$Operator", "addToSum", "(LPipelineSimulator$Keyed;IIILPipelineSimulator$Records;)V"⟩, 14) := ⟨⟨by decide +kernel, by decide +kernel⟩, List.mem_of_getElem? (i := 190) (by decide +kernel), List.mem_of_getElem? (i := 999) (by decide +kernel), List.mem_of_getElem? (i := 1000) (by decide +kernel)⟩
theorem lw_p20 : lw_okq (⟨"PipelineSimulator$Simulation", "completeCheckpoint", "()V"⟩, 15) := ⟨⟨by decide +kernel, by decide +kernel⟩, List.mem_of_getElem? (i := 110) (by decide +kernel), List.mem_of_getElem? (i := 1023) (by decide +kernel), List.mem_of_getElem? (i := 1024) (by decide +kernel)⟩
theorem lw_p21 : lw_okq (⟨"PipelineSimulator$Explanation", "reasonOf", "(II)I"⟩, 4) := ⟨⟨by decide +kernel, by decide +kernel⟩, List.mem_of_getElem? (i := 435) (by decide +kernel), List.mem_of_getElem? (i := 1147) (by decide +kernel), List.mem_of_getElem? (i := 1148) (by decide +kernel)⟩
theorem lw_p22 : lw_okq (⟨"PipelineSimulator$Explanation", "awaited", "(III)I"⟩, 4) := ⟨⟨by decide +kernel, by decide +kernel⟩, List.mem_of_getElem? (i := 435) (by decide +kernel), List.mem_of_getElem? (i := 1157) (by decide +kernel), List.mem_of_getElem? (i := 1158) (by decide +kernel)⟩
theorem lw_p23 : lw_okq (⟨"PipelineSimulator", "writeStage", "(LPipelineSimulator$Operator;)V"⟩, 6) := ⟨⟨by decide +kernel, by decide +kernel⟩, List.mem_of_getElem? (i := 28) (by decide +kernel), List.mem_of_getElem? (i := 1172) (by decide +kernel), List.mem_of_getElem? (i := 1173) (by decide +kernel)⟩
theorem lw_p24 : lw_okq (⟨"PipelineSimulatorModel", "here", "()I"⟩, 81) := ⟨⟨by decide +kernel, by decide +kernel⟩, List.mem_of_getElem? (i := 1227) (by decide +kernel), List.mem_of_getElem? (i := 1492) (by decide +kernel), List.mem_of_getElem? (i := 1493) (by decide +kernel)⟩
theorem lw_p25 : lw_okq (⟨"PipelineSimulatorModel", "stage", "(I)V"⟩, 81) := ⟨⟨by decide +kernel, by decide +kernel⟩, List.mem_of_getElem? (i := 1227) (by decide +kernel), List.mem_of_getElem? (i := 1496) (by decide +kernel), List.mem_of_getElem? (i := 1497) (by decide +kernel)⟩
theorem lw_p26 : lw_okq (⟨"PipelineSimulatorModel", "sign", "(I)V"⟩, 81) := ⟨⟨by decide +kernel, by decide +kernel⟩, List.mem_of_getElem? (i := 1227) (by decide +kernel), List.mem_of_getElem? (i := 1503) (by decide +kernel), List.mem_of_getElem? (i := 1504) (by decide +kernel)⟩
theorem lw_p27 : lw_okq (⟨"PipelineSimulatorModel", "number", "(II)I"⟩, 81) := ⟨⟨by decide +kernel, by decide +kernel⟩, List.mem_of_getElem? (i := 1227) (by decide +kernel), List.mem_of_getElem? (i := 1507) (by decide +kernel), List.mem_of_getElem? (i := 1508) (by decide +kernel)⟩
theorem lw_p28 : lw_okq (⟨"PipelineSimulatorModel", "instances", "()I"⟩, 81) := ⟨⟨by decide +kernel, by decide +kernel⟩, List.mem_of_getElem? (i := 1227) (by decide +kernel), List.mem_of_getElem? (i := 1511) (by decide +kernel), List.mem_of_getElem? (i := 1512) (by decide +kernel)⟩
theorem lw_p29 : lw_okq (⟨"PipelineSimulatorModel", "begins", "()V"⟩, 81) := ⟨⟨by decide +kernel, by decide +kernel⟩, List.mem_of_getElem? (i := 1227) (by decide +kernel), List.mem_of_getElem? (i := 1515) (by decide +kernel), List.mem_of_getElem? (i := 1516) (by decide +kernel)⟩
theorem lw_p30 : lw_okq (⟨"PipelineSimulatorModel", "breaks", "()V"⟩, 81) := ⟨⟨by decide +kernel, by decide +kernel⟩, List.mem_of_getElem? (i := 1227) (by decide +kernel), List.mem_of_getElem? (i := 1519) (by decide +kernel), List.mem_of_getElem? (i := 1520) (by decide +kernel)⟩
theorem lw_p31 : lw_okq (⟨"PipelineSimulatorModel", "quiet", "()Z"⟩, 81) := ⟨⟨by decide +kernel, by decide +kernel⟩, List.mem_of_getElem? (i := 1227) (by decide +kernel), List.mem_of_getElem? (i := 1546) (by decide +kernel), List.mem_of_getElem? (i := 1547) (by decide +kernel)⟩
def lw_privs_2 : List (MethodName × Nat) := [(⟨"PipelineSimulator$Simulation", "takeItem", "(IILPipelineSimulator$Operator;LPipelineSimulator$Instance;)Z"⟩, 15), (⟨"PipelineSimulator$Simulation", "saveInstance", "(ILPipelineSimulator$Operator;LPipelineSimulator$Instance;)V"⟩, 15), (⟨"PipelineSimulator$Operator", "passes", "(I)Z"⟩, 14), (⟨"PipelineSimulator$Operator", "addToSum", "(LPipelineSimulator$Keyed;IIILPipelineSimulator$Records;)V"⟩, 14), (⟨"PipelineSimulator$Simulation", "completeCheckpoint", "()V"⟩, 15), (⟨"PipelineSimulator$Explanation", "reasonOf", "(II)I"⟩, 4), (⟨"PipelineSimulator$Explanation", "awaited", "(III)I"⟩, 4), (⟨"PipelineSimulator", "writeStage", "(LPipelineSimulator$Operator;)V"⟩, 6), (⟨"PipelineSimulatorModel", "here", "()I"⟩, 81), (⟨"PipelineSimulatorModel", "stage", "(I)V"⟩, 81), (⟨"PipelineSimulatorModel", "sign", "(I)V"⟩, 81), (⟨"PipelineSimulatorModel", "number", "(II)I"⟩, 81), (⟨"PipelineSimulatorModel", "instances", "()I"⟩, 81), (⟨"PipelineSimulatorModel", "begins", "()V"⟩, 81), (⟨"PipelineSimulatorModel", "breaks", "()V"⟩, 81), (⟨"PipelineSimulatorModel", "quiet", "()Z"⟩, 81)]
theorem lw_r2 : ∀ q ∈ lw_privs_2, lw_okq q := List.forall_mem_cons.mpr ⟨lw_p16, List.forall_mem_cons.mpr ⟨lw_p17, List.forall_mem_cons.mpr ⟨lw_p18, List.forall_mem_cons.mpr ⟨lw_p19, List.forall_mem_cons.mpr ⟨lw_p20, List.forall_mem_cons.mpr ⟨lw_p21, List.forall_mem_cons.mpr ⟨lw_p22, List.forall_mem_cons.mpr ⟨lw_p23, List.forall_mem_cons.mpr ⟨lw_p24, List.forall_mem_cons.mpr ⟨lw_p25, List.forall_mem_cons.mpr ⟨lw_p26, List.forall_mem_cons.mpr ⟨lw_p27, List.forall_mem_cons.mpr ⟨lw_p28, List.forall_mem_cons.mpr ⟨lw_p29, List.forall_mem_cons.mpr ⟨lw_p30, List.forall_mem_cons.mpr ⟨lw_p31, fun _ h => absurd h List.not_mem_nil⟩⟩⟩⟩⟩⟩⟩⟩⟩⟩⟩⟩⟩⟩⟩⟩
theorem lw_p32 : lw_okq (⟨"PipelineSimulatorModel", "ticks", "()V"⟩, 81) := ⟨⟨by decide +kernel, by decide +kernel⟩, List.mem_of_getElem? (i := 1227) (by decide +kernel), List.mem_of_getElem? (i := 1550) (by decide +kernel), List.mem_of_getElem? (i := 1551) (by decide +kernel)⟩
theorem lw_p33 : lw_okq (⟨"PipelineSimulatorModel", "closes", "(I)V"⟩, 81) := ⟨⟨by decide +kernel, by decide +kernel⟩, List.mem_of_getElem? (i := 1227) (by decide +kernel), List.mem_of_getElem? (i := 1554) (by decide +kernel), List.mem_of_getElem? (i := 1555) (by decide +kernel)⟩
theorem lw_p34 : lw_okq (⟨"PipelineSimulatorModel", "sink", "()I"⟩, 81) := ⟨⟨by decide +kernel, by decide +kernel⟩, List.mem_of_getElem? (i := 1227) (by decide +kernel), List.mem_of_getElem? (i := 1558) (by decide +kernel), List.mem_of_getElem? (i := 1559) (by decide +kernel)⟩
theorem lw_p35 : lw_okq (⟨"PipelineSimulatorModel", "works", "(II)V"⟩, 81) := ⟨⟨by decide +kernel, by decide +kernel⟩, List.mem_of_getElem? (i := 1227) (by decide +kernel), List.mem_of_getElem? (i := 1562) (by decide +kernel), List.mem_of_getElem? (i := 1563) (by decide +kernel)⟩
theorem lw_p36 : lw_okq (⟨"PipelineSimulatorModel", "sends", "(II)Z"⟩, 81) := ⟨⟨by decide +kernel, by decide +kernel⟩, List.mem_of_getElem? (i := 1227) (by decide +kernel), List.mem_of_getElem? (i := 1566) (by decide +kernel), List.mem_of_getElem? (i := 1567) (by decide +kernel)⟩
theorem lw_p37 : lw_okq (⟨"PipelineSimulatorModel", "goal", "(III)I"⟩, 81) := ⟨⟨by decide +kernel, by decide +kernel⟩, List.mem_of_getElem? (i := 1227) (by decide +kernel), List.mem_of_getElem? (i := 1573) (by decide +kernel), List.mem_of_getElem? (i := 1574) (by decide +kernel)⟩
theorem lw_p38 : lw_okq (⟨"PipelineSimulatorModel", "isKeyed", "(I)Z"⟩, 81) := ⟨⟨by decide +kernel, by decide +kernel⟩, List.mem_of_getElem? (i := 1227) (by decide +kernel), List.mem_of_getElem? (i := 1577) (by decide +kernel), List.mem_of_getElem? (i := 1578) (by decide +kernel)⟩
theorem lw_p39 : lw_okq (⟨"PipelineSimulatorModel", "home", "(II)I"⟩, 81) := ⟨⟨by decide +kernel, by decide +kernel⟩, List.mem_of_getElem? (i := 1227) (by decide +kernel), List.mem_of_getElem? (i := 1581) (by decide +kernel), List.mem_of_getElem? (i := 1582) (by decide +kernel)⟩
theorem lw_p40 : lw_okq (⟨"PipelineSimulatorModel", "takesRecord", "(I)Z"⟩, 81) := ⟨⟨by decide +kernel, by decide +kernel⟩, List.mem_of_getElem? (i := 1227) (by decide +kernel), List.mem_of_getElem? (i := 1588) (by decide +kernel), List.mem_of_getElem? (i := 1589) (by decide +kernel)⟩
theorem lw_p41 : lw_okq (⟨"PipelineSimulatorModel", "puts", "(IIII)V"⟩, 81) := ⟨⟨by decide +kernel, by decide +kernel⟩, List.mem_of_getElem? (i := 1227) (by decide +kernel), List.mem_of_getElem? (i := 1592) (by decide +kernel), List.mem_of_getElem? (i := 1593) (by decide +kernel)⟩
theorem lw_p42 : lw_okq (⟨"PipelineSimulatorModel", "refusing", "(II)I"⟩, 81) := ⟨⟨by decide +kernel, by decide +kernel⟩, List.mem_of_getElem? (i := 1227) (by decide +kernel), List.mem_of_getElem? (i := 1596) (by decide +kernel), List.mem_of_getElem? (i := 1597) (by decide +kernel)⟩
theorem lw_p43 : lw_okq (⟨"PipelineSimulatorModel", "takesBarrier", "(I)Z"⟩, 81) := ⟨⟨by decide +kernel, by decide +kernel⟩, List.mem_of_getElem? (i := 1227) (by decide +kernel), List.mem_of_getElem? (i := 1600) (by decide +kernel), List.mem_of_getElem? (i := 1601) (by decide +kernel)⟩
theorem lw_p44 : lw_okq (⟨"PipelineSimulatorModel", "putsBarrier", "(I)V"⟩, 81) := ⟨⟨by decide +kernel, by decide +kernel⟩, List.mem_of_getElem? (i := 1227) (by decide +kernel), List.mem_of_getElem? (i := 1604) (by decide +kernel), List.mem_of_getElem? (i := 1605) (by decide +kernel)⟩
theorem lw_p45 : lw_okq (⟨"PipelineSimulatorModel", "takes", "(II)Z"⟩, 81) := ⟨⟨by decide +kernel, by decide +kernel⟩, List.mem_of_getElem? (i := 1227) (by decide +kernel), List.mem_of_getElem? (i := 1608) (by decide +kernel), List.mem_of_getElem? (i := 1609) (by decide +kernel)⟩
theorem lw_p46 : lw_okq (⟨"PipelineSimulatorModel", "emits", "(IIIII)V"⟩, 81) := ⟨⟨by decide +kernel, by decide +kernel⟩, List.mem_of_getElem? (i := 1227) (by decide +kernel), List.mem_of_getElem? (i := 1612) (by decide +kernel), List.mem_of_getElem? (i := 1613) (by decide +kernel)⟩
theorem lw_p47 : lw_okq (⟨"PipelineSimulatorModel", "ready", "(II)I"⟩, 81) := ⟨⟨by decide +kernel, by decide +kernel⟩, List.mem_of_getElem? (i := 1227) (by decide +kernel), List.mem_of_getElem? (i := 1616) (by decide +kernel), List.mem_of_getElem? (i := 1617) (by decide +kernel)⟩
def lw_privs_3 : List (MethodName × Nat) := [(⟨"PipelineSimulatorModel", "ticks", "()V"⟩, 81), (⟨"PipelineSimulatorModel", "closes", "(I)V"⟩, 81), (⟨"PipelineSimulatorModel", "sink", "()I"⟩, 81), (⟨"PipelineSimulatorModel", "works", "(II)V"⟩, 81), (⟨"PipelineSimulatorModel", "sends", "(II)Z"⟩, 81), (⟨"PipelineSimulatorModel", "goal", "(III)I"⟩, 81), (⟨"PipelineSimulatorModel", "isKeyed", "(I)Z"⟩, 81), (⟨"PipelineSimulatorModel", "home", "(II)I"⟩, 81), (⟨"PipelineSimulatorModel", "takesRecord", "(I)Z"⟩, 81), (⟨"PipelineSimulatorModel", "puts", "(IIII)V"⟩, 81), (⟨"PipelineSimulatorModel", "refusing", "(II)I"⟩, 81), (⟨"PipelineSimulatorModel", "takesBarrier", "(I)Z"⟩, 81), (⟨"PipelineSimulatorModel", "putsBarrier", "(I)V"⟩, 81), (⟨"PipelineSimulatorModel", "takes", "(II)Z"⟩, 81), (⟨"PipelineSimulatorModel", "emits", "(IIIII)V"⟩, 81), (⟨"PipelineSimulatorModel", "ready", "(II)I"⟩, 81)]
theorem lw_r3 : ∀ q ∈ lw_privs_3, lw_okq q := List.forall_mem_cons.mpr ⟨lw_p32, List.forall_mem_cons.mpr ⟨lw_p33, List.forall_mem_cons.mpr ⟨lw_p34, List.forall_mem_cons.mpr ⟨lw_p35, List.forall_mem_cons.mpr ⟨lw_p36, List.forall_mem_cons.mpr ⟨lw_p37, List.forall_mem_cons.mpr ⟨lw_p38, List.forall_mem_cons.mpr ⟨lw_p39, List.forall_mem_cons.mpr ⟨lw_p40, List.forall_mem_cons.mpr ⟨lw_p41, List.forall_mem_cons.mpr ⟨lw_p42, List.forall_mem_cons.mpr ⟨lw_p43, List.forall_mem_cons.mpr ⟨lw_p44, List.forall_mem_cons.mpr ⟨lw_p45, List.forall_mem_cons.mpr ⟨lw_p46, List.forall_mem_cons.mpr ⟨lw_p47, fun _ h => absurd h List.not_mem_nil⟩⟩⟩⟩⟩⟩⟩⟩⟩⟩⟩⟩⟩⟩⟩⟩
theorem lw_p48 : lw_okq (⟨"PipelineSimulatorModel", "pops", "(I)V"⟩, 81) := ⟨⟨by decide +kernel, by decide +kernel⟩, List.mem_of_getElem? (i := 1227) (by decide +kernel), List.mem_of_getElem? (i := 1620) (by decide +kernel), List.mem_of_getElem? (i := 1621) (by decide +kernel)⟩
theorem lw_p49 : lw_okq (⟨"PipelineSimulatorModel", "barrier", "(III)V"⟩, 81) := ⟨⟨by decide +kernel, by decide +kernel⟩, List.mem_of_getElem? (i := 1227) (by decide +kernel), List.mem_of_getElem? (i := 1624) (by decide +kernel), List.mem_of_getElem? (i := 1625) (by decide +kernel)⟩
theorem lw_p50 : lw_okq (⟨"PipelineSimulatorModel", "saves", "(II)V"⟩, 81) := ⟨⟨by decide +kernel, by decide +kernel⟩, List.mem_of_getElem? (i := 1227) (by decide +kernel), List.mem_of_getElem? (i := 1628) (by decide +kernel), List.mem_of_getElem? (i := 1629) (by decide +kernel)⟩
theorem lw_p51 : lw_okq (⟨"PipelineSimulatorModel", "completes", "()V"⟩, 81) := ⟨⟨by decide +kernel, by decide +kernel⟩, List.mem_of_getElem? (i := 1227) (by decide +kernel), List.mem_of_getElem? (i := 1632) (by decide +kernel), List.mem_of_getElem? (i := 1633) (by decide +kernel)⟩
theorem lw_p52 : lw_okq (⟨"PipelineSimulatorModel", "takesIn", "(IIIII)V"⟩, 81) := ⟨⟨by decide +kernel, by decide +kernel⟩, List.mem_of_getElem? (i := 1227) (by decide +kernel), List.mem_of_getElem? (i := 1636) (by decide +kernel), List.mem_of_getElem? (i := 1637) (by decide +kernel)⟩
theorem lw_p53 : lw_okq (⟨"PipelineSimulatorModel", "processes", "(III[Z[I[I)V"⟩, 81) := ⟨⟨by decide +kernel, by decide +kernel⟩, List.mem_of_getElem? (i := 1227) (by decide +kernel), List.mem_of_getElem? (i := 1640) (by decide +kernel), List.mem_of_getElem? (i := 1641) (by decide +kernel)⟩
theorem lw_p54 : lw_okq (⟨"PipelineSimulatorModel", "gives", "(II)V"⟩, 81) := ⟨⟨by decide +kernel, by decide +kernel⟩, List.mem_of_getElem? (i := 1227) (by decide +kernel), List.mem_of_getElem? (i := 1644) (by decide +kernel), List.mem_of_getElem? (i := 1645) (by decide +kernel)⟩
theorem lw_p55 : lw_okq (⟨"PipelineSimulatorModel", "isOperator", "(I)Z"⟩, 81) := ⟨⟨by decide +kernel, by decide +kernel⟩, List.mem_of_getElem? (i := 1227) (by decide +kernel), List.mem_of_getElem? (i := 1668) (by decide +kernel), List.mem_of_getElem? (i := 1669) (by decide +kernel)⟩
theorem lw_p56 : lw_okq (⟨"PipelineSimulatorModel", "inside", "(I)I"⟩, 81) := ⟨⟨by decide +kernel, by decide +kernel⟩, List.mem_of_getElem? (i := 1227) (by decide +kernel), List.mem_of_getElem? (i := 1676) (by decide +kernel), List.mem_of_getElem? (i := 1677) (by decide +kernel)⟩
theorem lw_p57 : lw_okq (⟨"PipelineSimulatorModel", "keysOf", "(II)I"⟩, 81) := ⟨⟨by decide +kernel, by decide +kernel⟩, List.mem_of_getElem? (i := 1227) (by decide +kernel), List.mem_of_getElem? (i := 1688) (by decide +kernel), List.mem_of_getElem? (i := 1689) (by decide +kernel)⟩
theorem lw_p58 : lw_okq (⟨"PipelineSimulatorModel", "told", "(III[Z[I[I)I"⟩, 81) := ⟨⟨by decide +kernel, by decide +kernel⟩, List.mem_of_getElem? (i := 1227) (by decide +kernel), List.mem_of_getElem? (i := 1700) (by decide +kernel), List.mem_of_getElem? (i := 1701) (by decide +kernel)⟩
theorem lw_p59 : lw_okq (⟨"PipelineSimulatorModel", "plainly", "()V"⟩, 81) := ⟨⟨by decide +kernel, by decide +kernel⟩, List.mem_of_getElem? (i := 1227) (by decide +kernel), List.mem_of_getElem? (i := 1712) (by decide +kernel), List.mem_of_getElem? (i := 1713) (by decide +kernel)⟩
theorem lw_p60 : lw_okq (⟨"PipelineSimulatorModel", "reasonOf", "(II)I"⟩, 81) := ⟨⟨by decide +kernel, by decide +kernel⟩, List.mem_of_getElem? (i := 1227) (by decide +kernel), List.mem_of_getElem? (i := 1720) (by decide +kernel), List.mem_of_getElem? (i := 1721) (by decide +kernel)⟩
theorem lw_p61 : lw_okq (⟨"PipelineSimulatorModel", "writes", "(I)V"⟩, 81) := ⟨⟨by decide +kernel, by decide +kernel⟩, List.mem_of_getElem? (i := 1227) (by decide +kernel), List.mem_of_getElem? (i := 1732) (by decide +kernel), List.mem_of_getElem? (i := 1733) (by decide +kernel)⟩
theorem lw_p62 : lw_okq (⟨"PipelineSimulatorModel", "writesNumber", "(I)V"⟩, 81) := ⟨⟨by decide +kernel, by decide +kernel⟩, List.mem_of_getElem? (i := 1227) (by decide +kernel), List.mem_of_getElem? (i := 1736) (by decide +kernel), List.mem_of_getElem? (i := 1737) (by decide +kernel)⟩
def lw_privs_4 : List (MethodName × Nat) := [(⟨"PipelineSimulatorModel", "pops", "(I)V"⟩, 81), (⟨"PipelineSimulatorModel", "barrier", "(III)V"⟩, 81), (⟨"PipelineSimulatorModel", "saves", "(II)V"⟩, 81), (⟨"PipelineSimulatorModel", "completes", "()V"⟩, 81), (⟨"PipelineSimulatorModel", "takesIn", "(IIIII)V"⟩, 81), (⟨"PipelineSimulatorModel", "processes", "(III[Z[I[I)V"⟩, 81), (⟨"PipelineSimulatorModel", "gives", "(II)V"⟩, 81), (⟨"PipelineSimulatorModel", "isOperator", "(I)Z"⟩, 81), (⟨"PipelineSimulatorModel", "inside", "(I)I"⟩, 81), (⟨"PipelineSimulatorModel", "keysOf", "(II)I"⟩, 81), (⟨"PipelineSimulatorModel", "told", "(III[Z[I[I)I"⟩, 81), (⟨"PipelineSimulatorModel", "plainly", "()V"⟩, 81), (⟨"PipelineSimulatorModel", "reasonOf", "(II)I"⟩, 81), (⟨"PipelineSimulatorModel", "writes", "(I)V"⟩, 81), (⟨"PipelineSimulatorModel", "writesNumber", "(I)V"⟩, 81)]
theorem lw_r4 : ∀ q ∈ lw_privs_4, lw_okq q := List.forall_mem_cons.mpr ⟨lw_p48, List.forall_mem_cons.mpr ⟨lw_p49, List.forall_mem_cons.mpr ⟨lw_p50, List.forall_mem_cons.mpr ⟨lw_p51, List.forall_mem_cons.mpr ⟨lw_p52, List.forall_mem_cons.mpr ⟨lw_p53, List.forall_mem_cons.mpr ⟨lw_p54, List.forall_mem_cons.mpr ⟨lw_p55, List.forall_mem_cons.mpr ⟨lw_p56, List.forall_mem_cons.mpr ⟨lw_p57, List.forall_mem_cons.mpr ⟨lw_p58, List.forall_mem_cons.mpr ⟨lw_p59, List.forall_mem_cons.mpr ⟨lw_p60, List.forall_mem_cons.mpr ⟨lw_p61, List.forall_mem_cons.mpr ⟨lw_p62, fun _ h => absurd h List.not_mem_nil⟩⟩⟩⟩⟩⟩⟩⟩⟩⟩⟩⟩⟩⟩⟩
def lw_privs : List (MethodName × Nat) := lw_privs_1 ++ (lw_privs_2 ++ (lw_privs_3 ++ (lw_privs_4)))
def lw_tbl : List Cond := k2_sels lw_privs ++ tables_1
theorem lw_privs_ok : ∀ q ∈ lw_privs, lw_okq q := by
  show ∀ q ∈ lw_privs_1 ++ (lw_privs_2 ++ (lw_privs_3 ++ (lw_privs_4))), lw_okq q
  exact List.forall_mem_append.mpr ⟨lw_r1, List.forall_mem_append.mpr ⟨lw_r2, List.forall_mem_append.mpr ⟨lw_r3, lw_r4⟩⟩⟩
-- ===== end of PART A; then your names; then what follows =====
def RX0 : String := "PipelineSimulator$Channel"
def TX0 : u_T := fun k => match k with
  | 0 => ("PipelineSimulator$Channel", "settings", "LPipelineSimulator$Settings;", true)
  | 1 => ("PipelineSimulator$Channel", "records", "LPipelineSimulator$Records;", true)
  | 2 => ("PipelineSimulator$Channel", "batches", "[I", true)
  | 3 => ("PipelineSimulator$Channel", "firstBatch", "I", false)
  | 4 => ("PipelineSimulator$Channel", "queued", "I", false)
  | 5 => ("PipelineSimulator$Channel", "open", "I", false)
  | _ => ("PipelineSimulator$Channel", "age", "I", false)
theorem nmX0 : ∀ a, a < 7 → ∀ b, b < 7 → a ≠ b → (TX0 a).2.1 ≠ (TX0 b).2.1 := by decide +kernel
def RX1 : String := "PipelineSimulator$Explanation"
def TX1 : u_T := fun k => match k with
  | 0 => ("PipelineSimulator$Explanation", "simulation", "LPipelineSimulator$Simulation;", true)
  | 1 => ("PipelineSimulator$Explanation", "places", "[I", true)
  | 2 => ("PipelineSimulator$Explanation", "reasons", "[I", true)
  | _ => ("PipelineSimulator$Explanation", "levels", "I", false)
theorem nmX1 : ∀ a, a < 4 → ∀ b, b < 4 → a ≠ b → (TX1 a).2.1 ≠ (TX1 b).2.1 := by decide +kernel
def RX2 : String := "PipelineSimulator$Instance"
def TX2 : u_T := fun k => match k with
  | 0 => ("PipelineSimulator$Instance", "list", "LPipelineSimulator$Records;", true)
  | 1 => ("PipelineSimulator$Instance", "holdsBarrier", "Z", false)
  | 2 => ("PipelineSimulator$Instance", "stopped", "I", false)
  | 3 => ("PipelineSimulator$Instance", "pointer", "I", false)
  | 4 => ("PipelineSimulator$Instance", "counter", "I", false)
  | 5 => ("PipelineSimulator$Instance", "pendingCounter", "I", false)
  | _ => ("PipelineSimulator$Instance", "savedCounter", "I", false)
theorem nmX2 : ∀ a, a < 7 → ∀ b, b < 7 → a ≠ b → (TX2 a).2.1 ≠ (TX2 b).2.1 := by decide +kernel
def RX3 : String := "PipelineSimulator$Keyed"
def TX3 : u_T := fun k => match k with
  | 0 => ("PipelineSimulator$Keyed", "first", "[I", true)
  | 1 => ("PipelineSimulator$Keyed", "second", "[I", true)
  | _ => ("PipelineSimulator$Keyed", "present", "I", false)
theorem nmX3 : ∀ a, a < 3 → ∀ b, b < 3 → a ≠ b → (TX3 a).2.1 ≠ (TX3 b).2.1 := by decide +kernel
def RX4 : String := "PipelineSimulator$Latencies"
def TX4 : u_T := fun k => match k with
  | 0 => ("PipelineSimulator$Latencies", "numbers", "[I", false)
  | 1 => ("PipelineSimulator$Latencies", "number", "I", false)
  | _ => ("PipelineSimulator$Latencies", "sum", "I", false)
theorem nmX4 : ∀ a, a < 3 → ∀ b, b < 3 → a ≠ b → (TX4 a).2.1 ≠ (TX4 b).2.1 := by decide +kernel
def RX5 : String := "PipelineSimulator$Operator"
def TX5 : u_T := fun k => match k with
  | 0 => ("PipelineSimulator$Operator", "instances", "[LPipelineSimulator$Instance;", true)
  | 1 => ("PipelineSimulator$Operator", "states", "LPipelineSimulator$Keyed;", true)
  | 2 => ("PipelineSimulator$Operator", "pending", "LPipelineSimulator$Keyed;", true)
  | 3 => ("PipelineSimulator$Operator", "saved", "LPipelineSimulator$Keyed;", true)
  | 4 => ("PipelineSimulator$Operator", "plainStates", "LPipelineSimulator$Keyed;", true)
  | 5 => ("PipelineSimulator$Operator", "plainList", "LPipelineSimulator$Records;", true)
  | 6 => ("PipelineSimulator$Operator", "kind", "I", false)
  | 7 => ("PipelineSimulator$Operator", "a", "I", false)
  | 8 => ("PipelineSimulator$Operator", "b", "I", false)
  | 9 => ("PipelineSimulator$Operator", "size", "I", false)
  | 10 => ("PipelineSimulator$Operator", "processed", "I", false)
  | 11 => ("PipelineSimulator$Operator", "emitted", "I", false)
  | 12 => ("PipelineSimulator$Operator", "blocked", "I", false)
  | _ => ("PipelineSimulator$Operator", "idle", "I", false)
theorem nmX5 : ∀ a, a < 14 → ∀ b, b < 14 → a ≠ b → (TX5 a).2.1 ≠ (TX5 b).2.1 := by decide +kernel
def RX6 : String := "PipelineSimulator$Plain"
def TX6 : u_T := fun k => match k with
  | 0 => ("PipelineSimulator$Plain", "simulation", "LPipelineSimulator$Simulation;", true)
  | _ => ("PipelineSimulator$Plain", "done", "I", false)
theorem nmX6 : ∀ a, a < 2 → ∀ b, b < 2 → a ≠ b → (TX6 a).2.1 ≠ (TX6 b).2.1 := by decide +kernel
def RX7 : String := "PipelineSimulator$Reader"
def TX7 : u_T := fun k => match k with
  | 0 => ("PipelineSimulator$Reader", "text", "Ljava/lang/StringBuilder;", true)
  | 1 => ("PipelineSimulator$Reader", "kinds", "[I", true)
  | 2 => ("PipelineSimulator$Reader", "firsts", "[I", true)
  | 3 => ("PipelineSimulator$Reader", "seconds", "[I", true)
  | 4 => ("PipelineSimulator$Reader", "sizes", "[I", true)
  | 5 => ("PipelineSimulator$Reader", "stages", "I", false)
  | 6 => ("PipelineSimulator$Reader", "sinks", "I", false)
  | 7 => ("PipelineSimulator$Reader", "position", "I", false)
  | _ => ("PipelineSimulator$Reader", "number", "I", false)
theorem nmX7 : ∀ a, a < 9 → ∀ b, b < 9 → a ≠ b → (TX7 a).2.1 ≠ (TX7 b).2.1 := by decide +kernel
def RX8 : String := "PipelineSimulator$Records"
def TX8 : u_T := fun k => match k with
  | 0 => ("PipelineSimulator$Records", "keys", "[I", true)
  | 1 => ("PipelineSimulator$Records", "values", "[I", true)
  | 2 => ("PipelineSimulator$Records", "births", "[I", true)
  | 3 => ("PipelineSimulator$Records", "mask", "I", true)
  | 4 => ("PipelineSimulator$Records", "head", "I", false)
  | _ => ("PipelineSimulator$Records", "size", "I", false)
theorem nmX8 : ∀ a, a < 6 → ∀ b, b < 6 → a ≠ b → (TX8 a).2.1 ≠ (TX8 b).2.1 := by decide +kernel
def RX9 : String := "PipelineSimulator$Settings"
def TX9 : u_T := fun k => match k with
  | 0 => ("PipelineSimulator$Settings", "size", "I", false)
  | 1 => ("PipelineSimulator$Settings", "age", "I", false)
  | 2 => ("PipelineSimulator$Settings", "credits", "I", false)
  | _ => ("PipelineSimulator$Settings", "rate", "I", false)
theorem nmX9 : ∀ a, a < 4 → ∀ b, b < 4 → a ≠ b → (TX9 a).2.1 ≠ (TX9 b).2.1 := by decide +kernel
def RX10 : String := "PipelineSimulator$Simulation"
def TX10 : u_T := fun k => match k with
  | 0 => ("PipelineSimulator$Simulation", "settings", "LPipelineSimulator$Settings;", true)
  | 1 => ("PipelineSimulator$Simulation", "input", "LPipelineSimulator$Records;", true)
  | 2 => ("PipelineSimulator$Simulation", "operators", "[LPipelineSimulator$Operator;", true)
  | 3 => ("PipelineSimulator$Simulation", "channels", "[LPipelineSimulator$Channel;", true)
  | 4 => ("PipelineSimulator$Simulation", "latencies", "LPipelineSimulator$Latencies;", true)
  | 5 => ("PipelineSimulator$Simulation", "stages", "I", false)
  | 6 => ("PipelineSimulator$Simulation", "offset", "I", false)
  | 7 => ("PipelineSimulator$Simulation", "pendingOffset", "I", false)
  | 8 => ("PipelineSimulator$Simulation", "savedOffset", "I", false)
  | 9 => ("PipelineSimulator$Simulation", "ticks", "I", false)
  | 10 => ("PipelineSimulator$Simulation", "failures", "I", false)
  | 11 => ("PipelineSimulator$Simulation", "latest", "I", false)
  | 12 => ("PipelineSimulator$Simulation", "running", "I", false)
  | 13 => ("PipelineSimulator$Simulation", "sinksToSave", "I", false)
  | _ => ("PipelineSimulator$Simulation", "begun", "Z", false)
theorem nmX10 : ∀ a, a < 15 → ∀ b, b < 15 → a ≠ b → (TX10 a).2.1 ≠ (TX10 b).2.1 := by decide +kernel
def RX11 : String := "PipelineSimulator"
def TX11 : u_T := fun k => match k with
  | 0 => ("PipelineSimulator", "text", "Ljava/lang/StringBuilder;", true)
  | 1 => ("PipelineSimulator", "writing", "Ljava/lang/StringBuilder;", true)
  | 2 => ("PipelineSimulator", "reader", "LPipelineSimulator$Reader;", true)
  | 3 => ("PipelineSimulator", "simulation", "LPipelineSimulator$Simulation;", true)
  | 4 => ("PipelineSimulator", "plainRun", "LPipelineSimulator$Plain;", true)
  | _ => ("PipelineSimulator", "latestExplanation", "LPipelineSimulator$Explanation;", true)
theorem nmX11 : ∀ a, a < 6 → ∀ b, b < 6 → a ≠ b → (TX11 a).2.1 ≠ (TX11 b).2.1 := by decide +kernel
def RX12 : String := "PipelineSimulatorModel"
def TX12 : u_T := fun k => match k with
  | 0 => ("PipelineSimulatorModel", "text", "[I", true)
  | 1 => ("PipelineSimulatorModel", "textN", "I", false)
  | 2 => ("PipelineSimulatorModel", "stages", "I", false)
  | 3 => ("PipelineSimulatorModel", "kind", "[I", true)
  | 4 => ("PipelineSimulatorModel", "a", "[I", true)
  | 5 => ("PipelineSimulatorModel", "b", "[I", true)
  | 6 => ("PipelineSimulatorModel", "p", "[I", true)
  | 7 => ("PipelineSimulatorModel", "batch", "I", false)
  | 8 => ("PipelineSimulatorModel", "oldest", "I", false)
  | 9 => ("PipelineSimulatorModel", "credits", "I", false)
  | 10 => ("PipelineSimulatorModel", "rate", "I", false)
  | 11 => ("PipelineSimulatorModel", "inputKey", "[I", true)
  | 12 => ("PipelineSimulatorModel", "inputValue", "[I", true)
  | 13 => ("PipelineSimulatorModel", "inputN", "I", false)
  | 14 => ("PipelineSimulatorModel", "offset", "I", false)
  | 15 => ("PipelineSimulatorModel", "ticks", "I", false)
  | 16 => ("PipelineSimulatorModel", "complete", "I", false)
  | 17 => ("PipelineSimulatorModel", "running", "I", false)
  | 18 => ("PipelineSimulatorModel", "failures", "I", false)
  | 19 => ("PipelineSimulatorModel", "isBegun", "Z", false)
  | 20 => ("PipelineSimulatorModel", "processed", "[I", true)
  | 21 => ("PipelineSimulatorModel", "emitted", "[I", true)
  | 22 => ("PipelineSimulatorModel", "blocked", "[I", true)
  | 23 => ("PipelineSimulatorModel", "idle", "[I", true)
  | 24 => ("PipelineSimulatorModel", "has", "[Z", true)
  | 25 => ("PipelineSimulatorModel", "runHas", "[Z", true)
  | 26 => ("PipelineSimulatorModel", "savedHas", "[Z", true)
  | 27 => ("PipelineSimulatorModel", "one", "[I", true)
  | 28 => ("PipelineSimulatorModel", "runOne", "[I", true)
  | 29 => ("PipelineSimulatorModel", "savedOne", "[I", true)
  | 30 => ("PipelineSimulatorModel", "two", "[I", true)
  | 31 => ("PipelineSimulatorModel", "runTwo", "[I", true)
  | 32 => ("PipelineSimulatorModel", "savedTwo", "[I", true)
  | 33 => ("PipelineSimulatorModel", "counter", "[I", true)
  | 34 => ("PipelineSimulatorModel", "runCounter", "[I", true)
  | 35 => ("PipelineSimulatorModel", "savedCounter", "[I", true)
  | 36 => ("PipelineSimulatorModel", "runOffset", "I", false)
  | 37 => ("PipelineSimulatorModel", "savedOffset", "I", false)
  | 38 => ("PipelineSimulatorModel", "sunk", "I", false)
  | 39 => ("PipelineSimulatorModel", "listN", "[I", true)
  | 40 => ("PipelineSimulatorModel", "listKey", "[I", true)
  | 41 => ("PipelineSimulatorModel", "listValue", "[I", true)
  | 42 => ("PipelineSimulatorModel", "listBirth", "[I", true)
  | 43 => ("PipelineSimulatorModel", "stopped", "[I", true)
  | 44 => ("PipelineSimulatorModel", "pointer", "[I", true)
  | 45 => ("PipelineSimulatorModel", "holds", "[Z", true)
  | 46 => ("PipelineSimulatorModel", "openN", "[I", true)
  | 47 => ("PipelineSimulatorModel", "age", "[I", true)
  | 48 => ("PipelineSimulatorModel", "openKey", "[I", true)
  | 49 => ("PipelineSimulatorModel", "openValue", "[I", true)
  | 50 => ("PipelineSimulatorModel", "openBirth", "[I", true)
  | 51 => ("PipelineSimulatorModel", "queueN", "[I", true)
  | 52 => ("PipelineSimulatorModel", "taken", "[I", true)
  | 53 => ("PipelineSimulatorModel", "size", "[I", true)
  | 54 => ("PipelineSimulatorModel", "queueKey", "[I", true)
  | 55 => ("PipelineSimulatorModel", "queueValue", "[I", true)
  | 56 => ("PipelineSimulatorModel", "queueBirth", "[I", true)
  | 57 => ("PipelineSimulatorModel", "late", "[I", true)
  | 58 => ("PipelineSimulatorModel", "lateN", "I", false)
  | 59 => ("PipelineSimulatorModel", "lateSum", "J", false)
  | 60 => ("PipelineSimulatorModel", "at", "I", false)
  | 61 => ("PipelineSimulatorModel", "isFaulty", "Z", false)
  | 62 => ("PipelineSimulatorModel", "newKind", "[I", true)
  | 63 => ("PipelineSimulatorModel", "newA", "[I", true)
  | 64 => ("PipelineSimulatorModel", "newB", "[I", true)
  | 65 => ("PipelineSimulatorModel", "newP", "[I", true)
  | 66 => ("PipelineSimulatorModel", "outKey", "[I", true)
  | 67 => ("PipelineSimulatorModel", "outValue", "[I", true)
  | 68 => ("PipelineSimulatorModel", "outN", "I", false)
  | 69 => ("PipelineSimulatorModel", "plainHas", "[Z", true)
  | 70 => ("PipelineSimulatorModel", "plainOne", "[I", true)
  | 71 => ("PipelineSimulatorModel", "plainTwo", "[I", true)
  | 72 => ("PipelineSimulatorModel", "waitsAt", "[I", true)
  | 73 => ("PipelineSimulatorModel", "waitsKey", "[I", true)
  | 74 => ("PipelineSimulatorModel", "waitsValue", "[I", true)
  | 75 => ("PipelineSimulatorModel", "place", "[I", true)
  | 76 => ("PipelineSimulatorModel", "reason", "[I", true)
  | 77 => ("PipelineSimulatorModel", "levels", "I", false)
  | 78 => ("PipelineSimulatorModel", "next", "I", false)
  | 79 => ("PipelineSimulatorModel", "out", "[I", true)
  | _ => ("PipelineSimulatorModel", "outLong", "I", false)
theorem nmX12 : ∀ a, a < 81 → ∀ b, b < 81 → a ≠ b → (TX12 a).2.1 ≠ (TX12 b).2.1 := by decide +kernel
def RJ4 : String := "java/lang/StringBuilder"
def TJ4 : u_T := fun k => match k with
  | 0 => ("java/lang/AbstractStringBuilder", "value", "[B", false)
  | 1 => ("java/lang/AbstractStringBuilder", "coder", "B", false)
  | 2 => ("java/lang/AbstractStringBuilder", "maybeLatin1", "Z", false)
  | _ => ("java/lang/AbstractStringBuilder", "count", "I", false)
theorem nmJ4 : ∀ a, a < 4 → ∀ b, b < 4 → a ≠ b → (TJ4 a).2.1 ≠ (TJ4 b).2.1 := by decide +kernel
abbrev classes : List vw_C := [(RX0, TX0, 7), (RX1, TX1, 4), (RX2, TX2, 7), (RX3, TX3, 3), (RX4, TX4, 3), (RX5, TX5, 14), (RX6, TX6, 2), (RX7, TX7, 9), (RX8, TX8, 6), (RX9, TX9, 4), (RX10, TX10, 15), (RX11, TX11, 6), (RX12, TX12, 81), (RJ4, TJ4, 4)]
def ctab : List (List Nat) := [[5, 5, 5, 0, 0, 0, 0], [5, 5, 5, 0], [5, 1, 0, 0, 0, 0, 0], [5, 5, 0], [5, 0, 0], [5, 5, 5, 5, 5, 5, 0, 0, 0, 0, 0, 0, 0, 0], [5, 0], [5, 5, 5, 5, 5, 0, 0, 0, 0], [5, 5, 5, 0, 0, 0], [0, 0, 0, 0], [5, 5, 5, 5, 5, 0, 0, 0, 0, 0, 0, 0, 0, 0, 1], [5, 5, 5, 5, 5, 5], [5, 0, 0, 5, 5, 5, 5, 0, 0, 0, 0, 5, 5, 0, 0, 0, 0, 0, 0, 1, 5, 5, 5, 5, 5, 5, 5, 5, 5, 5, 5, 5, 5, 5, 5, 5, 0, 0, 0, 5, 5, 5, 5, 5, 5, 5, 5, 5, 5, 5, 5, 5, 5, 5, 5, 5, 5, 5, 0, 4, 0, 1, 5, 5, 5, 5, 5, 5, 0, 5, 5, 5, 5, 5, 5, 5, 5, 0, 0, 5, 0], [5, 2, 1, 0]]
def xsel : List MethodName := [⟨"java/lang/AbstractStringBuilder", "ensureCapacityInternal", "(I)V"⟩, ⟨"java/lang/AbstractStringBuilder", "newCapacity", "(I)I"⟩]
def XT : List Cond := xsel.map (fun y => Cond.selects "java/lang/StringBuilder" y y) ++ lw_tbl
theorem xsel_ok : ∀ y ∈ xsel, (y.cls ≠ "java/lang/invoke/MethodHandle" ∧ y.cls ≠ "java/lang/invoke/VarHandle") ∧ Cond.privateMethod y ∈ tables_1 ∧ Cond.instanceMethod y ∈ tables_1 := by decide +kernel
theorem xsel_cl : ∀ y ∈ xsel, "java/lang/AbstractStringBuilder" = y.cls := by decide +kernel
theorem xsel_sb : Cond.instantiable "java/lang/StringBuilder" 4 ∈ tables_1 := by decide +kernel
theorem xsel_l1 : Cond.selects "java/lang/StringBuilder" ⟨"java/lang/AbstractStringBuilder", "isLatin1", "()Z"⟩ ⟨"java/lang/AbstractStringBuilder", "isLatin1", "()Z"⟩ ∈ tables_1 := by decide +kernel
theorem xt_selects {C : String} {y z : MethodName} {s : State} {args : Array Value} {n : Nat} (hz : z.cls = y.cls) (hsz : (Cond.selects C z z).before args s = true) (hy : y.cls ≠ "java/lang/invoke/MethodHandle" ∧ y.cls ≠ "java/lang/invoke/VarHandle")
    (hins : (Cond.instantiable C n).before args s = true) (hpriv : (Cond.privateMethod y).before args s = true) (hinst : (Cond.instanceMethod y).before args s = true) :
    (Cond.selects C y y).before args s = true := by
  obtain ⟨c, k, hc, hk, -, hniab, -, -⟩ := Cond.instantiable_spec hins
  obtain ⟨c2, r2, m2, q1, q2, q3, q4, kP, hkP, hkPi⟩ := Cond.selects_spec hsz
  obtain ⟨mk, methM, hnamed, hmethM, -, -⟩ := Cond.instanceMethod_spec hinst
  have hmc : mk.cls = m2.cls := Option.some.inj ((findClass_of_methodNamed hnamed).symm.trans (show s.vm.findClass y.cls = some m2.cls from hz ▸ findClass_of_methodNamed q3))
  have hfound : s.methodFound? y.cls y.name y.desc = some mk := State.methodFound?_of_named hnamed hy
  have hsel : selectMethod {} s.vm c mk = .method mk := selectMethod_private hmethM (Cond.privateMethod_at hpriv mk methM hnamed hmethM)
  simp only [Cond.before, Cond.holds, Cond.value, hc, hfound, hnamed, hsel, hmc, hkP]
  simp; exact hkPi
theorem xt_hts {args : Array Value} {s : State} (hts : ∀ w ∈ lw_tbl, w.before args s = true) : ∀ w ∈ XT, w.before args s = true := by
  intro w hw
  rcases List.mem_append.mp hw with hw | hw
  · obtain ⟨y, hy, rfl⟩ := List.mem_map.mp hw
    obtain ⟨h0, h1, h2⟩ := xsel_ok y hy
    have tm : ∀ w ∈ tables_1, w.before args s = true := fun w h => hts w (List.mem_append_right _ h)
    exact xt_selects (z := ⟨"java/lang/AbstractStringBuilder", "isLatin1", "()Z"⟩) (xsel_cl y hy) (tm _ xsel_l1) h0 (tm _ xsel_sb) (tm _ h1) (tm _ h2)
  · exact hts w hw
def hasW (i : Nat) (w : Cond) : Bool := decide (XT[i]? = some w) && goodWord w
def ALL : List Cond := XT.filter goodWord
def isNest : Cond → Bool
  | .fieldLinkNest .. => true
  | .methodLinkNest .. => true
  | _ => false
def NEST : List Cond := XT.filter isNest
def hasN (i : Nat) (w : Cond) : Bool := decide (XT[i]? = some w) && isNest w
theorem hasN_mem {i : Nat} {w : Cond} (h : hasN i w = true) : w ∈ NEST := by
  unfold hasN at h
  rw [Bool.and_eq_true, decide_eq_true_eq] at h
  exact List.mem_filter.mpr ⟨List.mem_of_getElem? h.1, h.2⟩
def hasX (i : Nat) (w : Cond) : Bool := decide (XT[i]? = some w)
theorem hasX_mem {i : Nat} {w : Cond} (h : hasX i w = true) : w ∈ XT := List.mem_of_getElem? (of_decide_eq_true h)
theorem hasW_mem {i : Nat} {w : Cond} (h : hasW i w = true) : w ∈ ALL := by
  unfold hasW at h
  rw [Bool.and_eq_true, decide_eq_true_eq] at h
  exact List.mem_filter.mpr ⟨List.mem_of_getElem? h.1, h.2⟩
theorem lay_X0 : (List.range 7).all (fun k => hasW (([410, 412, 414, 416, 418, 420, 422] : List Nat).getD k 0) (u_lay RX0 TX0 k)) = true := by decide +kernel
theorem tc_X0 : (List.range 7).all (fun k => (parseFieldDescriptor (TX0 k).2.2.1).isSome) = true := by decide +kernel
theorem lay_X1 : (List.range 4).all (fun k => hasW (([512, 514, 516, 518] : List Nat).getD k 0) (u_lay RX1 TX1 k)) = true := by decide +kernel
theorem tc_X1 : (List.range 4).all (fun k => (parseFieldDescriptor (TX1 k).2.2.1).isSome) = true := by decide +kernel
theorem lay_X2 : (List.range 7).all (fun k => hasW (([308, 310, 312, 314, 316, 318, 320] : List Nat).getD k 0) (u_lay RX2 TX2 k)) = true := by decide +kernel
theorem tc_X2 : (List.range 7).all (fun k => (parseFieldDescriptor (TX2 k).2.2.1).isSome) = true := by decide +kernel
theorem lay_X3 : (List.range 3).all (fun k => hasW (([271, 273, 275] : List Nat).getD k 0) (u_lay RX3 TX3 k)) = true := by decide +kernel
theorem tc_X3 : (List.range 3).all (fun k => (parseFieldDescriptor (TX3 k).2.2.1).isSome) = true := by decide +kernel
theorem lay_X4 : (List.range 3).all (fun k => hasW (([248, 250, 252] : List Nat).getD k 0) (u_lay RX4 TX4 k)) = true := by decide +kernel
theorem tc_X4 : (List.range 3).all (fun k => (parseFieldDescriptor (TX4 k).2.2.1).isSome) = true := by decide +kernel
theorem lay_X5 : (List.range 14).all (fun k => hasW (([362, 364, 366, 368, 370, 372, 374, 376, 378, 380, 382, 384, 386, 388] : List Nat).getD k 0) (u_lay RX5 TX5 k)) = true := by decide +kernel
theorem tc_X5 : (List.range 14).all (fun k => (parseFieldDescriptor (TX5 k).2.2.1).isSome) = true := by decide +kernel
theorem lay_X6 : (List.range 2).all (fun k => hasW (([494, 496] : List Nat).getD k 0) (u_lay RX6 TX6 k)) = true := by decide +kernel
theorem tc_X6 : (List.range 2).all (fun k => (parseFieldDescriptor (TX6 k).2.2.1).isSome) = true := by decide +kernel
theorem lay_X7 : (List.range 9).all (fun k => hasW (([154, 156, 158, 160, 162, 164, 166, 168, 170] : List Nat).getD k 0) (u_lay RX7 TX7 k)) = true := by decide +kernel
theorem tc_X7 : (List.range 9).all (fun k => (parseFieldDescriptor (TX7 k).2.2.1).isSome) = true := by decide +kernel
theorem lay_X8 : (List.range 6).all (fun k => hasW (([220, 222, 224, 226, 228, 230] : List Nat).getD k 0) (u_lay RX8 TX8 k)) = true := by decide +kernel
theorem tc_X8 : (List.range 6).all (fun k => (parseFieldDescriptor (TX8 k).2.2.1).isSome) = true := by decide +kernel
theorem lay_X9 : (List.range 4).all (fun k => hasW (([195, 197, 199, 201] : List Nat).getD k 0) (u_lay RX9 TX9 k)) = true := by decide +kernel
theorem tc_X9 : (List.range 4).all (fun k => (parseFieldDescriptor (TX9 k).2.2.1).isSome) = true := by decide +kernel
theorem lay_X10 : (List.range 15).all (fun k => hasW (([455, 457, 459, 461, 463, 465, 467, 469, 471, 473, 475, 477, 479, 481, 483] : List Nat).getD k 0) (u_lay RX10 TX10 k)) = true := by decide +kernel
theorem tc_X10 : (List.range 15).all (fun k => (parseFieldDescriptor (TX10 k).2.2.1).isSome) = true := by decide +kernel
theorem lay_X11 : (List.range 6).all (fun k => hasW (([527, 529, 531, 533, 535, 537] : List Nat).getD k 0) (u_lay RX11 TX11 k)) = true := by decide +kernel
theorem tc_X11 : (List.range 6).all (fun k => (parseFieldDescriptor (TX11 k).2.2.1).isSome) = true := by decide +kernel
theorem lay_X12 : (List.range 81).all (fun k => hasW (([1379, 1381, 1383, 1385, 1387, 1389, 1391, 1393, 1395, 1397, 1399, 1401, 1403, 1405, 1407, 1409, 1411, 1413, 1415, 1417, 1419, 1421, 1423, 1425, 1427, 1429, 1431, 1433, 1435, 1437, 1439, 1441, 1443, 1445, 1447, 1449, 1451, 1453, 1455, 1457, 1459, 1461, 1463, 1465, 1467, 1469, 1471, 1473, 1475, 1477, 1479, 1481, 1483, 1485, 1487, 1489, 1491, 1493, 1495, 1497, 1499, 1501, 1503, 1505, 1507, 1509, 1511, 1513, 1515, 1517, 1519, 1521, 1523, 1525, 1527, 1529, 1531, 1533, 1535, 1537, 1539] : List Nat).getD k 0) (u_lay RX12 TX12 k)) = true := by decide +kernel
theorem tc_X12 : (List.range 81).all (fun k => (parseFieldDescriptor (TX12 k).2.2.1).isSome) = true := by decide +kernel
theorem lay_J4 : (List.range 4).all (fun k => hasW (([122, 124, 126, 128] : List Nat).getD k 0) (u_lay RJ4 TJ4 k)) = true := by decide +kernel
theorem tc_J4 : (List.range 4).all (fun k => (parseFieldDescriptor (TJ4 k).2.2.1).isSome) = true := by decide +kernel
def owns : List String := ["java/lang/AbstractStringBuilder", "java/lang/StringBuilder", "PipelineSimulator$Reader", "PipelineSimulator$Settings", "PipelineSimulator$Records", "PipelineSimulator$Latencies", "PipelineSimulator$Keyed", "PipelineSimulator$Instance", "PipelineSimulator$Operator", "PipelineSimulator$Channel", "PipelineSimulator$Simulation", "PipelineSimulator$Plain", "PipelineSimulator$Explanation", "PipelineSimulator", "PipelineSimulatorModel", "java/lang/Math", "jdk/internal/util/ArraysSupport", "java/util/Arrays", "java/lang/StringLatin1", "jdk/internal/util/Preconditions", "java/lang/String", "java/lang/Integer", "PipelineSimulatorLaw"]
def oN (i : Nat) : String := owns.getD i ""
end
section
-- 0: java/lang/AbstractStringBuilder.<init>(I)V
def il_0 : List (Nat × Instr × Nat) := [(0, .aload_n 0, 1), (1, .invokespecial 3, 4), (4, .getstatic 18, 7), (7, .ifCond .eq 18, 10), (10, .aload_n 0, 11), (11, .iload_n 1, 12), (12, .newarray .byte, 14), (14, .putfield 15, 17), (17, .aload_n 0, 18), (18, .iconst 0, 19), (19, .putfield 22, 22), (22, .goto 16, 25), (25, .aload_n 0, 26), (26, .iload_n 1, 27), (27, .invokestatic 26, 30), (30, .putfield 15, 33), (33, .aload_n 0, 34), (34, .iconst 1, 35), (35, .putfield 22, 38), (38, .return_, 39)]
theorem dec_0_0 : ((il_0.drop 0).take 50).all (fun q => decide (decode prog_15_method_2_code q.1 = .ok (q.2.1, q.2.2 - q.1))) = true := by decide +kernel
-- 1: java/lang/StringBuilder.<init>()V
def il_1 : List (Nat × Instr × Nat) := [(0, .aload_n 0, 1), (1, .bipush 16, 3), (3, .invokespecial 1, 6), (6, .return_, 7)]
theorem dec_1_0 : ((il_1.drop 0).take 50).all (fun q => decide (decode prog_22_method_1_code q.1 = .ok (q.2.1, q.2.2 - q.1))) = true := by decide +kernel
-- 2: PipelineSimulator$Reader.<init>(Ljava/lang/StringBuilder;)V
def il_2 : List (Nat × Instr × Nat) := [(0, .aload_n 0, 1), (1, .invokespecial 3, 4), (4, .aload_n 0, 5), (5, .iconst 4, 6), (6, .newarray .int, 8), (8, .putfield 9, 11), (11, .aload_n 0, 12), (12, .iconst 4, 13), (13, .newarray .int, 15), (15, .putfield 15, 18), (18, .aload_n 0, 19), (19, .iconst 4, 20), (20, .newarray .int, 22), (22, .putfield 18, 25), (25, .aload_n 0, 26), (26, .iconst 4, 27), (27, .newarray .int, 29), (29, .putfield 21, 32), (32, .aload_n 0, 33), (33, .aload_n 1, 34), (34, .putfield 24, 37), (37, .return_, 38)]
theorem dec_2_0 : ((il_2.drop 0).take 50).all (fun q => decide (decode prog_9_method_1_code q.1 = .ok (q.2.1, q.2.2 - q.1))) = true := by decide +kernel
-- 3: PipelineSimulator$Settings.<init>()V
def il_3 : List (Nat × Instr × Nat) := [(0, .aload_n 0, 1), (1, .invokespecial 1, 4), (4, .aload_n 0, 5), (5, .iconst 2, 6), (6, .putfield 7, 9), (9, .aload_n 0, 10), (10, .iconst 3, 11), (11, .putfield 13, 14), (14, .aload_n 0, 15), (15, .iconst 2, 16), (16, .putfield 16, 19), (19, .aload_n 0, 20), (20, .iconst 2, 21), (21, .putfield 19, 24), (24, .return_, 25)]
theorem dec_3_0 : ((il_3.drop 0).take 50).all (fun q => decide (decode prog_11_method_1_code q.1 = .ok (q.2.1, q.2.2 - q.1))) = true := by decide +kernel
-- 4: PipelineSimulator$Records.<init>(I)V
def il_4 : List (Nat × Instr × Nat) := [(0, .aload_n 0, 1), (1, .invokespecial 1, 4), (4, .iconst 1, 5), (5, .iload_n 1, 6), (6, .bipush 7, 8), (8, .iand, 9), (9, .ishl, 10), (10, .istore_n 2, 11), (11, .aload_n 0, 12), (12, .iload_n 2, 13), (13, .newarray .int, 15), (15, .putfield 7, 18), (18, .aload_n 0, 19), (19, .iload_n 2, 20), (20, .newarray .int, 22), (22, .putfield 13, 25), (25, .aload_n 0, 26), (26, .iload_n 2, 27), (27, .newarray .int, 29), (29, .putfield 16, 32), (32, .aload_n 0, 33), (33, .iload_n 2, 34), (34, .iconst 1, 35), (35, .isub, 36), (36, .putfield 19, 39), (39, .return_, 40)]
theorem dec_4_0 : ((il_4.drop 0).take 50).all (fun q => decide (decode prog_10_method_1_code q.1 = .ok (q.2.1, q.2.2 - q.1))) = true := by decide +kernel
-- 5: PipelineSimulator$Latencies.<init>()V
def il_5 : List (Nat × Instr × Nat) := [(0, .aload_n 0, 1), (1, .invokespecial 1, 4), (4, .aload_n 0, 5), (5, .bipush 64, 7), (7, .newarray .int, 9), (9, .putfield 7, 12), (12, .return_, 13)]
theorem dec_5_0 : ((il_5.drop 0).take 50).all (fun q => decide (decode prog_6_method_1_code q.1 = .ok (q.2.1, q.2.2 - q.1))) = true := by decide +kernel
-- 6: PipelineSimulator$Keyed.<init>()V
def il_6 : List (Nat × Instr × Nat) := [(0, .aload_n 0, 1), (1, .invokespecial 3, 4), (4, .aload_n 0, 5), (5, .bipush 16, 7), (7, .newarray .int, 9), (9, .putfield 9, 12), (12, .aload_n 0, 13), (13, .bipush 16, 15), (15, .newarray .int, 17), (17, .putfield 15, 20), (20, .return_, 21)]
theorem dec_6_0 : ((il_6.drop 0).take 50).all (fun q => decide (decode prog_5_method_1_code q.1 = .ok (q.2.1, q.2.2 - q.1))) = true := by decide +kernel
-- 7: PipelineSimulator$Instance.<init>()V
def il_7 : List (Nat × Instr × Nat) := [(0, .aload_n 0, 1), (1, .invokespecial 1, 4), (4, .aload_n 0, 5), (5, .new 7, 8), (8, .dup, 9), (9, .iconst 2, 10), (10, .invokespecial 9, 13), (13, .putfield 12, 16), (16, .return_, 17)]
theorem dec_7_0 : ((il_7.drop 0).take 50).all (fun q => decide (decode prog_4_method_1_code q.1 = .ok (q.2.1, q.2.2 - q.1))) = true := by decide +kernel
-- 8: PipelineSimulator$Operator.become(IIII)V
def il_8 : List (Nat × Instr × Nat) := [(0, .aload_n 0, 1), (1, .iload_n 1, 2), (2, .putfield 47, 5), (5, .aload_n 0, 6), (6, .iload_n 2, 7), (7, .putfield 51, 10), (10, .aload_n 0, 11), (11, .iload_n 3, 12), (12, .putfield 54, 15), (15, .aload_n 0, 16), (16, .iload 4, 18), (18, .putfield 57, 21), (21, .return_, 22)]
theorem dec_8_0 : ((il_8.drop 0).take 50).all (fun q => decide (decode prog_7_method_2_code q.1 = .ok (q.2.1, q.2.2 - q.1))) = true := by decide +kernel
-- 9: PipelineSimulator$Operator.<init>(I)V
def il_9 : List (Nat × Instr × Nat) := [(0, .aload_n 0, 1), (1, .invokespecial 3, 4), (4, .aload_n 0, 5), (5, .iconst 3, 6), (6, .anewarray 9, 9), (9, .putfield 11, 12), (12, .aload_n 0, 13), (13, .new 17, 16), (16, .dup, 17), (17, .invokespecial 19, 20), (20, .putfield 20, 23), (23, .aload_n 0, 24), (24, .new 17, 27), (27, .dup, 28), (28, .invokespecial 19, 31), (31, .putfield 24, 34), (34, .aload_n 0, 35), (35, .new 17, 38), (38, .dup, 39), (39, .invokespecial 19, 42), (42, .putfield 27, 45), (45, .aload_n 0, 46), (46, .new 17, 49), (49, .dup, 50), (50, .invokespecial 19, 53), (53, .putfield 30, 56), (56, .aload_n 0, 57), (57, .new 33, 60), (60, .dup, 61), (61, .iconst 2, 62), (62, .invokespecial 35, 65), (65, .putfield 38, 68), (68, .iconst 0, 69), (69, .istore_n 2, 70), (70, .iload_n 2, 71), (71, .aload_n 0, 72), (72, .getfield 11, 75), (75, .arraylength, 76), (76, .if_icmp .ge 22, 79), (79, .aload_n 0, 80), (80, .getfield 11, 83), (83, .iload_n 2, 84), (84, .new 9, 87), (87, .dup, 88), (88, .invokespecial 42, 91), (91, .aastore, 92), (92, .iinc 2 1, 95), (95, .goto (-25), 98), (98, .aload_n 0, 99), (99, .iload_n 1, 100), (100, .iconst 0, 101), (101, .iconst 0, 102), (102, .iconst 1, 103), (103, .invokevirtual 43, 106), (106, .return_, 107)]
theorem dec_9_0 : ((il_9.drop 0).take 50).all (fun q => decide (decode prog_7_method_1_code q.1 = .ok (q.2.1, q.2.2 - q.1))) = true := by decide +kernel
theorem dec_9_50 : ((il_9.drop 50).take 50).all (fun q => decide (decode prog_7_method_1_code q.1 = .ok (q.2.1, q.2.2 - q.1))) = true := by decide +kernel
-- 10: PipelineSimulator$Channel.<init>(LPipelineSimulator$Settings;)V
def il_10 : List (Nat × Instr × Nat) := [(0, .aload_n 0, 1), (1, .invokespecial 1, 4), (4, .aload_n 0, 5), (5, .new 7, 8), (8, .dup, 9), (9, .iconst 5, 10), (10, .invokespecial 9, 13), (13, .putfield 12, 16), (16, .aload_n 0, 17), (17, .iconst 4, 18), (18, .newarray .int, 20), (20, .putfield 18, 23), (23, .aload_n 0, 24), (24, .aload_n 1, 25), (25, .putfield 22, 28), (28, .return_, 29)]
theorem dec_10_0 : ((il_10.drop 0).take 50).all (fun q => decide (decode prog_2_method_1_code q.1 = .ok (q.2.1, q.2.2 - q.1))) = true := by decide +kernel
-- 11: PipelineSimulator$Simulation.<init>()V
def il_11 : List (Nat × Instr × Nat) := [(0, .aload_n 0, 1), (1, .invokespecial 3, 4), (4, .aload_n 0, 5), (5, .new 9, 8), (8, .dup, 9), (9, .invokespecial 11, 12), (12, .putfield 12, 15), (15, .aload_n 0, 16), (16, .new 18, 19), (19, .dup, 20), (20, .bipush 6, 22), (22, .invokespecial 20, 25), (25, .putfield 23, 28), (28, .aload_n 0, 29), (29, .bipush 6, 31), (31, .anewarray 27, 34), (34, .putfield 29, 37), (37, .aload_n 0, 38), (38, .bipush 45, 40), (40, .anewarray 33, 43), (43, .putfield 35, 46), (46, .aload_n 0, 47), (47, .new 39, 50), (50, .dup, 51), (51, .invokespecial 41, 54), (54, .putfield 42, 57), (57, .iconst 0, 58), (58, .istore_n 1, 59), (59, .iload_n 1, 60), (60, .aload_n 0, 61), (61, .getfield 29, 64), (64, .arraylength, 65), (65, .if_icmp .ge 33, 68), (68, .aload_n 0, 69), (69, .getfield 29, 72), (72, .iload_n 1, 73), (73, .new 27, 76), (76, .dup, 77), (77, .iload_n 1, 78), (78, .ifCond .ne 8, 81), (81, .bipush 7, 83), (83, .goto 5, 86), (86, .bipush 8, 88), (88, .invokespecial 46, 91), (91, .aastore, 92), (92, .iinc 1 1, 95), (95, .goto (-36), 98), (98, .iconst 0, 99), (99, .istore_n 1, 100), (100, .iload_n 1, 101), (101, .aload_n 0, 102), (102, .getfield 35, 105), (105, .arraylength, 106), (106, .if_icmp .ge 26, 109), (109, .aload_n 0, 110), (110, .getfield 35, 113), (113, .iload_n 1, 114), (114, .new 33, 117), (117, .dup, 118), (118, .aload_n 0, 119), (119, .getfield 12, 122), (122, .invokespecial 47, 125), (125, .aastore, 126), (126, .iinc 1 1, 129), (129, .goto (-29), 132), (132, .return_, 133)]
theorem dec_11_0 : ((il_11.drop 0).take 50).all (fun q => decide (decode prog_12_method_1_code q.1 = .ok (q.2.1, q.2.2 - q.1))) = true := by decide +kernel
theorem dec_11_50 : ((il_11.drop 50).take 50).all (fun q => decide (decode prog_12_method_1_code q.1 = .ok (q.2.1, q.2.2 - q.1))) = true := by decide +kernel
-- 12: PipelineSimulator$Plain.<init>(LPipelineSimulator$Simulation;)V
def il_12 : List (Nat × Instr × Nat) := [(0, .aload_n 0, 1), (1, .invokespecial 3, 4), (4, .aload_n 0, 5), (5, .aload_n 1, 6), (6, .putfield 9, 9), (9, .return_, 10)]
theorem dec_12_0 : ((il_12.drop 0).take 50).all (fun q => decide (decode prog_8_method_1_code q.1 = .ok (q.2.1, q.2.2 - q.1))) = true := by decide +kernel
-- 13: PipelineSimulator$Explanation.<init>(LPipelineSimulator$Simulation;)V
def il_13 : List (Nat × Instr × Nat) := [(0, .aload_n 0, 1), (1, .invokespecial 3, 4), (4, .aload_n 0, 5), (5, .bipush 8, 7), (7, .newarray .int, 9), (9, .putfield 9, 12), (12, .aload_n 0, 13), (13, .bipush 8, 15), (15, .newarray .int, 17), (17, .putfield 15, 20), (20, .aload_n 0, 21), (21, .aload_n 1, 22), (22, .putfield 18, 25), (25, .return_, 26)]
theorem dec_13_0 : ((il_13.drop 0).take 50).all (fun q => decide (decode prog_3_method_1_code q.1 = .ok (q.2.1, q.2.2 - q.1))) = true := by decide +kernel
-- 14: PipelineSimulator.<init>()V
def il_14 : List (Nat × Instr × Nat) := [(0, .aload_n 0, 1), (1, .invokespecial 1, 4), (4, .aload_n 0, 5), (5, .new 7, 8), (8, .dup, 9), (9, .invokespecial 9, 12), (12, .putfield 10, 15), (15, .aload_n 0, 16), (16, .new 7, 19), (19, .dup, 20), (20, .invokespecial 9, 23), (23, .putfield 16, 26), (26, .aload_n 0, 27), (27, .new 19, 30), (30, .dup, 31), (31, .aload_n 0, 32), (32, .getfield 10, 35), (35, .invokespecial 21, 38), (38, .putfield 24, 41), (41, .aload_n 0, 42), (42, .new 28, 45), (45, .dup, 46), (46, .invokespecial 30, 49), (49, .putfield 31, 52), (52, .aload_n 0, 53), (53, .new 35, 56), (56, .dup, 57), (57, .aload_n 0, 58), (58, .getfield 31, 61), (61, .invokespecial 37, 64), (64, .putfield 40, 67), (67, .aload_n 0, 68), (68, .new 44, 71), (71, .dup, 72), (72, .aload_n 0, 73), (73, .getfield 31, 76), (76, .invokespecial 46, 79), (79, .putfield 47, 82), (82, .return_, 83)]
theorem dec_14_0 : ((il_14.drop 0).take 50).all (fun q => decide (decode prog_1_method_1_code q.1 = .ok (q.2.1, q.2.2 - q.1))) = true := by decide +kernel
-- 15: PipelineSimulatorModel.<init>()V
def il_15 : List (Nat × Instr × Nat) := [(0, .aload_n 0, 1), (1, .invokespecial 3, 4), (4, .aload_n 0, 5), (5, .bipush 60, 7), (7, .newarray .int, 9), (9, .putfield 9, 12), (12, .aload_n 0, 13), (13, .bipush 6, 15), (15, .newarray .int, 17), (17, .putfield 13, 20), (20, .aload_n 0, 21), (21, .bipush 6, 23), (23, .newarray .int, 25), (25, .putfield 16, 28), (28, .aload_n 0, 29), (29, .bipush 6, 31), (31, .newarray .int, 33), (33, .putfield 19, 36), (36, .aload_n 0, 37), (37, .bipush 6, 39), (39, .newarray .int, 41), (41, .putfield 22, 44), (44, .aload_n 0, 45), (45, .iconst 2, 46), (46, .putfield 25, 49), (49, .aload_n 0, 50), (50, .iconst 3, 51), (51, .putfield 29, 54), (54, .aload_n 0, 55), (55, .iconst 2, 56), (56, .putfield 32, 59), (59, .aload_n 0, 60), (60, .iconst 2, 61), (61, .putfield 35, 64), (64, .aload_n 0, 65), (65, .bipush 60, 67), (67, .newarray .int, 69), (69, .putfield 38, 72), (72, .aload_n 0, 73), (73, .bipush 60, 75), (75, .newarray .int, 77), (77, .putfield 41, 80), (80, .aload_n 0, 81), (81, .bipush 6, 83), (83, .newarray .int, 85), (85, .putfield 44, 88), (88, .aload_n 0, 89), (89, .bipush 6, 91), (91, .newarray .int, 93), (93, .putfield 47, 96), (96, .aload_n 0, 97), (97, .bipush 6, 99), (99, .newarray .int, 101), (101, .putfield 50, 104), (104, .aload_n 0, 105), (105, .bipush 6, 107), (107, .newarray .int, 109), (109, .putfield 53, 112), (112, .aload_n 0, 113), (113, .bipush 96, 115), (115, .newarray .boolean, 117), (117, .putfield 56, 120), (120, .aload_n 0, 121), (121, .bipush 96, 123), (123, .newarray .boolean, 125), (125, .putfield 60, 128), (128, .aload_n 0, 129), (129, .bipush 96, 131), (131, .newarray .boolean, 133), (133, .putfield 63, 136), (136, .aload_n 0, 137), (137, .bipush 96, 139), (139, .newarray .int, 141), (141, .putfield 66, 144), (144, .aload_n 0, 145), (145, .bipush 96, 147), (147, .newarray .int, 149), (149, .putfield 69, 152), (152, .aload_n 0, 153), (153, .bipush 96, 155), (155, .newarray .int, 157), (157, .putfield 72, 160), (160, .aload_n 0, 161), (161, .bipush 96, 163), (163, .newarray .int, 165), (165, .putfield 75, 168), (168, .aload_n 0, 169), (169, .bipush 96, 171), (171, .newarray .int, 173), (173, .putfield 78, 176), (176, .aload_n 0, 177), (177, .bipush 96, 179), (179, .newarray .int, 181), (181, .putfield 81, 184), (184, .aload_n 0, 185), (185, .bipush 18, 187), (187, .newarray .int, 189), (189, .putfield 84, 192), (192, .aload_n 0, 193), (193, .bipush 18, 195), (195, .newarray .int, 197), (197, .putfield 87, 200), (200, .aload_n 0, 201), (201, .bipush 18, 203), (203, .newarray .int, 205), (205, .putfield 90, 208), (208, .aload_n 0, 209), (209, .bipush 18, 211), (211, .newarray .int, 213), (213, .putfield 93, 216), (216, .aload_n 0, 217), (217, .bipush 54, 219), (219, .newarray .int, 221), (221, .putfield 96, 224), (224, .aload_n 0, 225), (225, .bipush 54, 227), (227, .newarray .int, 229), (229, .putfield 99, 232), (232, .aload_n 0, 233), (233, .bipush 54, 235), (235, .newarray .int, 237), (237, .putfield 102, 240), (240, .aload_n 0, 241), (241, .bipush 18, 243), (243, .newarray .int, 245), (245, .putfield 105, 248), (248, .aload_n 0, 249), (249, .bipush 18, 251), (251, .newarray .int, 253), (253, .putfield 108, 256), (256, .aload_n 0, 257), (257, .bipush 18, 259), (259, .newarray .boolean, 261), (261, .putfield 111, 264), (264, .aload_n 0, 265), (265, .bipush 54, 267), (267, .newarray .int, 269), (269, .putfield 114, 272), (272, .aload_n 0, 273), (273, .bipush 54, 275), (275, .newarray .int, 277), (277, .putfield 117, 280), (280, .aload_n 0, 281), (281, .sipush 216, 284), (284, .newarray .int, 286), (286, .putfield 120, 289), (289, .aload_n 0, 290), (290, .sipush 216, 293), (293, .newarray .int, 295), (295, .putfield 123, 298), (298, .aload_n 0, 299), (299, .sipush 216, 302), (302, .newarray .int, 304), (304, .putfield 126, 307), (307, .aload_n 0, 308), (308, .bipush 54, 310), (310, .newarray .int, 312), (312, .putfield 129, 315), (315, .aload_n 0, 316), (316, .bipush 54, 318), (318, .newarray .int, 320), (320, .putfield 132, 323), (323, .aload_n 0, 324), (324, .sipush 216, 327), (327, .newarray .int, 329), (329, .putfield 135, 332), (332, .aload_n 0, 333), (333, .sipush 864, 336), (336, .newarray .int, 338), (338, .putfield 138, 341), (341, .aload_n 0, 342), (342, .sipush 864, 345), (345, .newarray .int, 347), (347, .putfield 141, 350), (350, .aload_n 0, 351), (351, .sipush 864, 354), (354, .newarray .int, 356), (356, .putfield 144, 359), (359, .aload_n 0, 360), (360, .ldc 147, 362), (362, .newarray .int, 364), (364, .putfield 148, 367), (367, .aload_n 0, 368), (368, .bipush 6, 370), (370, .newarray .int, 372), (372, .putfield 151, 375), (375, .aload_n 0, 376), (376, .bipush 6, 378), (378, .newarray .int, 380), (380, .putfield 154, 383), (383, .aload_n 0, 384), (384, .bipush 6, 386), (386, .newarray .int, 388), (388, .putfield 157, 391), (391, .aload_n 0, 392), (392, .bipush 6, 394), (394, .newarray .int, 396), (396, .putfield 160, 399), (399, .aload_n 0, 400), (400, .iconst 3, 401), (401, .newarray .int, 403), (403, .putfield 163, 406), (406, .aload_n 0, 407), (407, .iconst 3, 408), (408, .newarray .int, 410), (410, .putfield 166, 413), (413, .aload_n 0, 414), (414, .bipush 96, 416), (416, .newarray .boolean, 418), (418, .putfield 169, 421), (421, .aload_n 0, 422), (422, .bipush 96, 424), (424, .newarray .int, 426), (426, .putfield 172, 429), (429, .aload_n 0, 430), (430, .bipush 96, 432), (432, .newarray .int, 434), (434, .putfield 175, 437), (437, .aload_n 0, 438), (438, .bipush 30, 440), (440, .newarray .int, 442), (442, .putfield 178, 445), (445, .aload_n 0, 446), (446, .bipush 30, 448), (448, .newarray .int, 450), (450, .putfield 181, 453), (453, .aload_n 0, 454), (454, .bipush 30, 456), (456, .newarray .int, 458), (458, .putfield 184, 461), (461, .aload_n 0, 462), (462, .bipush 8, 464), (464, .newarray .int, 466), (466, .putfield 187, 469), (469, .aload_n 0, 470), (470, .bipush 8, 472), (472, .newarray .int, 474), (474, .putfield 190, 477), (477, .aload_n 0, 478), (478, .bipush 80, 480), (480, .newarray .int, 482), (482, .putfield 193, 485), (485, .aload_n 0, 486), (486, .getfield 13, 489), (489, .iconst 0, 490), (490, .bipush 7, 492), (492, .iastore, 493), (493, .aload_n 0, 494), (494, .getfield 13, 497), (497, .iconst 1, 498), (498, .bipush 8, 500), (500, .iastore, 501), (501, .aload_n 0, 502), (502, .getfield 22, 505), (505, .iconst 0, 506), (506, .iconst 1, 507), (507, .iastore, 508), (508, .aload_n 0, 509), (509, .getfield 22, 512), (512, .iconst 1, 513), (513, .iconst 1, 514), (514, .iastore, 515), (515, .return_, 516)]
theorem dec_15_0 : ((il_15.drop 0).take 50).all (fun q => decide (decode prog_14_method_1_code q.1 = .ok (q.2.1, q.2.2 - q.1))) = true := by decide +kernel
theorem dec_15_50 : ((il_15.drop 50).take 50).all (fun q => decide (decode prog_14_method_1_code q.1 = .ok (q.2.1, q.2.2 - q.1))) = true := by decide +kernel
theorem dec_15_100 : ((il_15.drop 100).take 50).all (fun q => decide (decode prog_14_method_1_code q.1 = .ok (q.2.1, q.2.2 - q.1))) = true := by decide +kernel
theorem dec_15_150 : ((il_15.drop 150).take 50).all (fun q => decide (decode prog_14_method_1_code q.1 = .ok (q.2.1, q.2.2 - q.1))) = true := by decide +kernel
theorem dec_15_200 : ((il_15.drop 200).take 50).all (fun q => decide (decode prog_14_method_1_code q.1 = .ok (q.2.1, q.2.2 - q.1))) = true := by decide +kernel
theorem dec_15_250 : ((il_15.drop 250).take 50).all (fun q => decide (decode prog_14_method_1_code q.1 = .ok (q.2.1, q.2.2 - q.1))) = true := by decide +kernel
-- 16: java/lang/AbstractStringBuilder.length()I
def il_16 : List (Nat × Instr × Nat) := [(0, .aload_n 0, 1), (1, .getfield 79, 4), (4, .ireturn, 5)]
theorem dec_16_0 : ((il_16.drop 0).take 50).all (fun q => decide (decode prog_15_method_6_code q.1 = .ok (q.2.1, q.2.2 - q.1))) = true := by decide +kernel
-- 17: java/lang/StringBuilder.length()I
def il_17 : List (Nat × Instr × Nat) := [(0, .aload_n 0, 1), (1, .invokespecial 343, 4), (4, .ireturn, 5)]
theorem dec_17_0 : ((il_17.drop 0).take 50).all (fun q => decide (decode prog_22_method_93_code q.1 = .ok (q.2.1, q.2.2 - q.1))) = true := by decide +kernel
-- 18: java/lang/Math.max(II)I
def il_18 : List (Nat × Instr × Nat) := [(0, .iload_n 0, 1), (1, .iload_n 1, 2), (2, .if_icmp .lt 7, 5), (5, .iload_n 0, 6), (6, .goto 4, 9), (9, .iload_n 1, 10), (10, .ireturn, 11)]
theorem dec_18_0 : ((il_18.drop 0).take 50).all (fun q => decide (decode prog_19_method_65_code q.1 = .ok (q.2.1, q.2.2 - q.1))) = true := by decide +kernel
-- 19: jdk/internal/util/ArraysSupport.newLength(III)I
def il_19 : List (Nat × Instr × Nat) := [(0, .iload_n 0, 1), (1, .iload_n 1, 2), (2, .iload_n 2, 3), (3, .invokestatic 194, 6), (6, .iadd, 7), (7, .istore_n 3, 8), (8, .iconst 0, 9), (9, .iload_n 3, 10), (10, .if_icmp .ge 11, 13), (13, .iload_n 3, 14), (14, .ldc 200, 16), (16, .if_icmp .gt 5, 19), (19, .iload_n 3, 20), (20, .ireturn, 21), (21, .iload_n 0, 22), (22, .iload_n 1, 23), (23, .invokestatic 201, 26), (26, .ireturn, 27)]
theorem dec_19_0 : ((il_19.drop 0).take 50).all (fun q => decide (decode prog_27_method_27_code q.1 = .ok (q.2.1, q.2.2 - q.1))) = true := by decide +kernel
-- 20: java/lang/AbstractStringBuilder.newCapacity(I)I
def il_20 : List (Nat × Instr × Nat) := [(0, .aload_n 0, 1), (1, .getfield 15, 4), (4, .arraylength, 5), (5, .istore_n 2, 6), (6, .iload_n 1, 7), (7, .aload_n 0, 8), (8, .getfield 22, 11), (11, .ishl, 12), (12, .istore_n 3, 13), (13, .iload_n 3, 14), (14, .iload_n 2, 15), (15, .isub, 16), (16, .istore 4, 18), (18, .iload_n 2, 19), (19, .iload 4, 21), (21, .iload_n 2, 22), (22, .iconst 2, 23), (23, .aload_n 0, 24), (24, .getfield 22, 27), (27, .ishl, 28), (28, .iadd, 29), (29, .invokestatic 114, 32), (32, .istore 5, 34), (34, .iload 5, 36), (36, .ldc 39, 38), (38, .if_icmp .ne 13, 41), (41, .new 120, 44), (44, .dup, 45), (45, .ldc 122, 47), (47, .invokespecial 124, 50), (50, .athrow, 51), (51, .iload 5, 53), (53, .aload_n 0, 54), (54, .getfield 22, 57), (57, .ishr, 58), (58, .ireturn, 59)]
theorem dec_20_0 : ((il_20.drop 0).take 50).all (fun q => decide (decode prog_15_method_10_code q.1 = .ok (q.2.1, q.2.2 - q.1))) = true := by decide +kernel
-- 21: java/lang/Math.min(II)I
def il_21 : List (Nat × Instr × Nat) := [(0, .iload_n 0, 1), (1, .iload_n 1, 2), (2, .if_icmp .gt 7, 5), (5, .iload_n 0, 6), (6, .goto 4, 9), (9, .iload_n 1, 10), (10, .ireturn, 11)]
theorem dec_21_0 : ((il_21.drop 0).take 50).all (fun q => decide (decode prog_19_method_69_code q.1 = .ok (q.2.1, q.2.2 - q.1))) = true := by decide +kernel
-- 22: java/util/Arrays.copyOf([BI)[B
def il_22 : List (Nat × Instr × Nat) := [(0, .iload_n 1, 1), (1, .aload_n 0, 2), (2, .arraylength, 3), (3, .if_icmp .ne 11, 6), (6, .aload_n 0, 7), (7, .invokevirtual 310, 10), (10, .checkcast 311, 13), (13, .areturn, 14), (14, .iload_n 1, 15), (15, .newarray .byte, 17), (17, .astore_n 2, 18), (18, .aload_n 0, 19), (19, .iconst 0, 20), (20, .aload_n 2, 21), (21, .iconst 0, 22), (22, .aload_n 0, 23), (23, .arraylength, 24), (24, .iload_n 1, 25), (25, .invokestatic 304, 28), (28, .invokestatic 150, 31), (31, .aload_n 2, 32), (32, .areturn, 33)]
theorem dec_22_0 : ((il_22.drop 0).take 50).all (fun q => decide (decode prog_26_method_121_code q.1 = .ok (q.2.1, q.2.2 - q.1))) = true := by decide +kernel
-- 23: java/lang/AbstractStringBuilder.ensureCapacityInternal(I)V
def il_23 : List (Nat × Instr × Nat) := [(0, .aload_n 0, 1), (1, .getfield 15, 4), (4, .arraylength, 5), (5, .aload_n 0, 6), (6, .getfield 22, 9), (9, .ishr, 10), (10, .istore_n 2, 11), (11, .iload_n 1, 12), (12, .iload_n 2, 13), (13, .isub, 14), (14, .ifCond .le 24, 17), (17, .aload_n 0, 18), (18, .aload_n 0, 19), (19, .getfield 15, 22), (22, .aload_n 0, 23), (23, .iload_n 1, 24), (24, .invokevirtual 104, 27), (27, .aload_n 0, 28), (28, .getfield 22, 31), (31, .ishl, 32), (32, .invokestatic 108, 35), (35, .putfield 15, 38), (38, .return_, 39)]
theorem dec_23_0 : ((il_23.drop 0).take 50).all (fun q => decide (decode prog_15_method_9_code q.1 = .ok (q.2.1, q.2.2 - q.1))) = true := by decide +kernel
-- 24: java/lang/AbstractStringBuilder.isLatin1()Z
def il_24 : List (Nat × Instr × Nat) := [(0, .getstatic 18, 3), (3, .ifCond .eq 14, 6), (6, .aload_n 0, 7), (7, .getfield 22, 10), (10, .ifCond .ne 7, 13), (13, .iconst 1, 14), (14, .goto 4, 17), (17, .iconst 0, 18), (18, .ireturn, 19)]
theorem dec_24_0 : ((il_24.drop 0).take 50).all (fun q => decide (decode prog_15_method_68_code q.1 = .ok (q.2.1, q.2.2 - q.1))) = true := by decide +kernel
-- 25: java/lang/StringLatin1.canEncode(C)Z
def il_25 : List (Nat × Instr × Nat) := [(0, .iload_n 0, 1), (1, .sipush 255, 4), (4, .if_icmp .gt 7, 7), (7, .iconst 1, 8), (8, .goto 4, 11), (11, .iconst 0, 12), (12, .ireturn, 13)]
theorem dec_25_0 : ((il_25.drop 0).take 50).all (fun q => decide (decode prog_23_method_3_code q.1 = .ok (q.2.1, q.2.2 - q.1))) = true := by decide +kernel
-- 26: java/lang/AbstractStringBuilder.append(C)Ljava/lang/AbstractStringBuilder;
def il_26 : List (Nat × Instr × Nat) := [(0, .aload_n 0, 1), (1, .aload_n 0, 2), (2, .getfield 79, 5), (5, .iconst 1, 6), (6, .iadd, 7), (7, .invokevirtual 100, 10), (10, .aload_n 0, 11), (11, .invokevirtual 83, 14), (14, .ifCond .eq 31, 17), (17, .iload_n 1, 18), (18, .invokestatic 191, 21), (21, .ifCond .eq 24, 24), (24, .aload_n 0, 25), (25, .getfield 15, 28), (28, .aload_n 0, 29), (29, .dup, 30), (30, .getfield 79, 33), (33, .dup_x1, 34), (34, .iconst 1, 35), (35, .iadd, 36), (36, .putfield 79, 39), (39, .iload_n 1, 40), (40, .i2b, 41), (41, .bastore, 42), (42, .goto 33, 45), (45, .aload_n 0, 46), (46, .invokevirtual 83, 49), (49, .ifCond .eq 7, 52), (52, .aload_n 0, 53), (53, .invokevirtual 195, 56), (56, .aload_n 0, 57), (57, .getfield 15, 60), (60, .aload_n 0, 61), (61, .dup, 62), (62, .getfield 79, 65), (65, .dup_x1, 66), (66, .iconst 1, 67), (67, .iadd, 68), (68, .putfield 79, 71), (71, .iload_n 1, 72), (72, .invokestatic 197, 75), (75, .aload_n 0, 76), (76, .areturn, 77)]
theorem dec_26_0 : ((il_26.drop 0).take 50).all (fun q => decide (decode prog_15_method_31_code q.1 = .ok (q.2.1, q.2.2 - q.1))) = true := by decide +kernel
-- 27: java/lang/StringBuilder.append(C)Ljava/lang/StringBuilder;
def il_27 : List (Nat × Instr × Nat) := [(0, .aload_n 0, 1), (1, .iload_n 1, 2), (2, .invokespecial 50, 5), (5, .pop, 6), (6, .aload_n 0, 7), (7, .areturn, 8)]
theorem dec_27_0 : ((il_27.drop 0).take 50).all (fun q => decide (decode prog_22_method_14_code q.1 = .ok (q.2.1, q.2.2 - q.1))) = true := by decide +kernel
-- 28: PipelineSimulator.append(II)I
def il_28 : List (Nat × Instr × Nat) := [(0, .iload_n 1, 1), (1, .ifCond .lt 20, 4), (4, .iload_n 1, 5), (5, .bipush 127, 7), (7, .if_icmp .gt 14, 10), (10, .iload_n 2, 11), (11, .iconst 1, 12), (12, .if_icmp .lt 9, 15), (15, .iload_n 2, 16), (16, .bipush 60, 18), (18, .if_icmp .le 6, 21), (21, .ldc 51, 23), (23, .ireturn, 24), (24, .aload_n 0, 25), (25, .getfield 10, 28), (28, .invokevirtual 52, 31), (31, .iload_n 2, 32), (32, .iadd, 33), (33, .bipush 60, 35), (35, .if_icmp .le 6, 38), (38, .ldc 56, 40), (40, .ireturn, 41), (41, .iconst 0, 42), (42, .istore_n 3, 43), (43, .iload_n 3, 44), (44, .iload_n 2, 45), (45, .if_icmp .ge 19, 48), (48, .aload_n 0, 49), (49, .getfield 10, 52), (52, .iload_n 1, 53), (53, .i2c, 54), (54, .invokevirtual 57, 57), (57, .pop, 58), (58, .iinc 3 1, 61), (61, .goto (-18), 64), (64, .aload_n 0, 65), (65, .getfield 10, 68), (68, .invokevirtual 52, 71), (71, .ireturn, 72)]
theorem dec_28_0 : ((il_28.drop 0).take 50).all (fun q => decide (decode prog_1_method_2_code q.1 = .ok (q.2.1, q.2.2 - q.1))) = true := by decide +kernel
-- 29: PipelineSimulatorModel.isIn(III)Z
def il_29 : List (Nat × Instr × Nat) := [(0, .iload_n 0, 1), (1, .iload_n 1, 2), (2, .if_icmp .lt 12, 5), (5, .iload_n 0, 6), (6, .iload_n 2, 7), (7, .if_icmp .gt 7, 10), (10, .iconst 1, 11), (11, .goto 4, 14), (14, .iconst 0, 15), (15, .ireturn, 16)]
theorem dec_29_0 : ((il_29.drop 0).take 50).all (fun q => decide (decode prog_14_method_2_code q.1 = .ok (q.2.1, q.2.2 - q.1))) = true := by decide +kernel
-- 30: PipelineSimulatorModel.append(II)I
def il_30 : List (Nat × Instr × Nat) := [(0, .iload_n 1, 1), (1, .iconst 0, 2), (2, .bipush 127, 4), (4, .invokestatic 203, 7), (7, .ifCond .eq 13, 10), (10, .iload_n 2, 11), (11, .iconst 1, 12), (12, .bipush 60, 14), (14, .invokestatic 203, 17), (17, .ifCond .ne 6, 20), (20, .ldc 207, 22), (22, .ireturn, 23), (23, .aload_n 0, 24), (24, .getfield 208, 27), (27, .iload_n 2, 28), (28, .iadd, 29), (29, .bipush 60, 31), (31, .if_icmp .le 6, 34), (34, .ldc 211, 36), (36, .ireturn, 37), (37, .iconst 0, 38), (38, .istore_n 3, 39), (39, .iload_n 3, 40), (40, .iload_n 2, 41), (41, .if_icmp .ge 29, 44), (44, .aload_n 0, 45), (45, .getfield 9, 48), (48, .aload_n 0, 49), (49, .getfield 208, 52), (52, .iload_n 1, 53), (53, .iastore, 54), (54, .aload_n 0, 55), (55, .dup, 56), (56, .getfield 208, 59), (59, .iconst 1, 60), (60, .iadd, 61), (61, .putfield 208, 64), (64, .iinc 3 1, 67), (67, .goto (-28), 70), (70, .aload_n 0, 71), (71, .getfield 208, 74), (74, .ireturn, 75)]
theorem dec_30_0 : ((il_30.drop 0).take 50).all (fun q => decide (decode prog_14_method_7_code q.1 = .ok (q.2.1, q.2.2 - q.1))) = true := by decide +kernel
-- 31: jdk/internal/util/Preconditions.checkIndex(IILjava/util/function/BiFunction;)I
def il_31 : List (Nat × Instr × Nat) := [(0, .iload_n 0, 1), (1, .ifCond .lt 8, 4), (4, .iload_n 0, 5), (5, .iload_n 1, 6), (6, .if_icmp .lt 10, 9), (9, .aload_n 2, 10), (10, .iload_n 0, 11), (11, .iload_n 1, 12), (12, .invokestatic 95, 15), (15, .athrow, 16), (16, .iload_n 0, 17), (17, .ireturn, 18)]
theorem dec_31_0 : ((il_31.drop 0).take 50).all (fun q => decide (decode prog_28_method_11_code q.1 = .ok (q.2.1, q.2.2 - q.1))) = true := by decide +kernel
-- 32: java/lang/String.checkIndex(II)V
def il_32 : List (Nat × Instr × Nat) := [(0, .iload_n 0, 1), (1, .iload_n 1, 2), (2, .getstatic 1053, 5), (5, .invokestatic 1059, 8), (8, .pop, 9), (9, .return_, 10)]
theorem dec_32_0 : ((il_32.drop 0).take 50).all (fun q => decide (decode prog_21_method_155_code q.1 = .ok (q.2.1, q.2.2 - q.1))) = true := by decide +kernel
-- 33: java/lang/AbstractStringBuilder.charAt(I)C
def il_33 : List (Nat × Instr × Nat) := [(0, .aload_n 0, 1), (1, .getfield 22, 4), (4, .istore_n 2, 5), (5, .aload_n 0, 6), (6, .getfield 15, 9), (9, .astore_n 3, 10), (10, .aload_n 0, 11), (11, .getfield 79, 14), (14, .aload_n 3, 15), (15, .arraylength, 16), (16, .iload_n 2, 17), (17, .ishr, 18), (18, .invokestatic 138, 21), (21, .istore 4, 23), (23, .iload_n 1, 24), (24, .iload 4, 26), (26, .invokestatic 144, 29), (29, .iload_n 2, 30), (30, .ifCond .ne 12, 33), (33, .aload_n 3, 34), (34, .iload_n 1, 35), (35, .baload, 36), (36, .sipush 255, 39), (39, .iand, 40), (40, .i2c, 41), (41, .ireturn, 42), (42, .aload_n 3, 43), (43, .iload_n 1, 44), (44, .invokestatic 148, 47), (47, .ireturn, 48)]
theorem dec_33_0 : ((il_33.drop 0).take 50).all (fun q => decide (decode prog_15_method_14_code q.1 = .ok (q.2.1, q.2.2 - q.1))) = true := by decide +kernel
-- 34: java/lang/StringBuilder.charAt(I)C
def il_34 : List (Nat × Instr × Nat) := [(0, .aload_n 0, 1), (1, .iload_n 1, 2), (2, .invokespecial 329, 5), (5, .ireturn, 6)]
theorem dec_34_0 : ((il_34.drop 0).take 50).all (fun q => decide (decode prog_22_method_88_code q.1 = .ok (q.2.1, q.2.2 - q.1))) = true := by decide +kernel
-- 35: PipelineSimulator$Reader.sign()I
def il_35 : List (Nat × Instr × Nat) := [(0, .aload_n 0, 1), (1, .getfield 28, 4), (4, .ifCond .lt 17, 7), (7, .aload_n 0, 8), (8, .getfield 28, 11), (11, .aload_n 0, 12), (12, .getfield 24, 15), (15, .invokevirtual 52, 18), (18, .if_icmp .lt 7, 21), (21, .iconst (-1), 22), (22, .goto 14, 25), (25, .aload_n 0, 26), (26, .getfield 24, 29), (29, .aload_n 0, 30), (30, .getfield 28, 33), (33, .invokevirtual 57, 36), (36, .ireturn, 37)]
theorem dec_35_0 : ((il_35.drop 0).take 50).all (fun q => decide (decode prog_9_method_3_code q.1 = .ok (q.2.1, q.2.2 - q.1))) = true := by decide +kernel
-- 36: java/lang/String.isLatin1()Z
def il_36 : List (Nat × Instr × Nat) := [(0, .getstatic 38, 3), (3, .ifCond .eq 14, 6), (6, .aload_n 0, 7), (7, .getfield 15, 10), (10, .ifCond .ne 7, 13), (13, .iconst 1, 14), (14, .goto 4, 17), (17, .iconst 0, 18), (18, .ireturn, 19)]
theorem dec_36_0 : ((il_36.drop 0).take 50).all (fun q => decide (decode prog_21_method_154_code q.1 = .ok (q.2.1, q.2.2 - q.1))) = true := by decide +kernel
-- 37: java/lang/String.coder()B
def il_37 : List (Nat × Instr × Nat) := [(0, .getstatic 38, 3), (3, .ifCond .eq 10, 6), (6, .aload_n 0, 7), (7, .getfield 15, 10), (10, .goto 4, 13), (13, .iconst 1, 14), (14, .ireturn, 15)]
theorem dec_37_0 : ((il_37.drop 0).take 50).all (fun q => decide (decode prog_21_method_152_code q.1 = .ok (q.2.1, q.2.2 - q.1))) = true := by decide +kernel
-- 38: java/lang/String.length()I
def il_38 : List (Nat × Instr × Nat) := [(0, .aload_n 0, 1), (1, .getfield 9, 4), (4, .arraylength, 5), (5, .aload_n 0, 6), (6, .invokevirtual 335, 9), (9, .ishr, 10), (10, .ireturn, 11)]
theorem dec_38_0 : ((il_38.drop 0).take 50).all (fun q => decide (decode prog_21_method_54_code q.1 = .ok (q.2.1, q.2.2 - q.1))) = true := by decide +kernel
-- 39: java/lang/StringLatin1.canEncode(I)Z
def il_39 : List (Nat × Instr × Nat) := [(0, .iload_n 0, 1), (1, .ifCond .lt 14, 4), (4, .iload_n 0, 5), (5, .sipush 255, 8), (8, .if_icmp .gt 7, 11), (11, .iconst 1, 12), (12, .goto 4, 15), (15, .iconst 0, 16), (16, .ireturn, 17)]
theorem dec_39_0 : ((il_39.drop 0).take 50).all (fun q => decide (decode prog_23_method_4_code q.1 = .ok (q.2.1, q.2.2 - q.1))) = true := by decide +kernel
-- 40: java/lang/StringLatin1.indexOfChar([BIII)I
def il_40 : List (Nat × Instr × Nat) := [(0, .iload_n 1, 1), (1, .i2b, 2), (2, .istore 4, 4), (4, .iload_n 2, 5), (5, .istore 5, 7), (7, .iload 5, 9), (9, .iload_n 3, 10), (10, .if_icmp .ge 21, 13), (13, .aload_n 0, 14), (14, .iload 5, 16), (16, .baload, 17), (17, .iload 4, 19), (19, .if_icmp .ne 6, 22), (22, .iload 5, 24), (24, .ireturn, 25), (25, .iinc 5 1, 28), (28, .goto (-21), 31), (31, .iconst (-1), 32), (32, .ireturn, 33)]
theorem dec_40_0 : ((il_40.drop 0).take 50).all (fun q => decide (decode prog_23_method_23_code q.1 = .ok (q.2.1, q.2.2 - q.1))) = true := by decide +kernel
-- 41: java/lang/StringLatin1.indexOf([BIII)I
def il_41 : List (Nat × Instr × Nat) := [(0, .iload_n 1, 1), (1, .invokestatic 88, 4), (4, .ifCond .ne 5, 7), (7, .iconst (-1), 8), (8, .ireturn, 9), (9, .iload_n 2, 10), (10, .iconst 0, 11), (11, .invokestatic 92, 14), (14, .istore_n 2, 15), (15, .iload_n 3, 16), (16, .aload_n 0, 17), (17, .arraylength, 18), (18, .invokestatic 38, 21), (21, .istore_n 3, 22), (22, .iload_n 2, 23), (23, .iload_n 3, 24), (24, .if_icmp .lt 5, 27), (27, .iconst (-1), 28), (28, .ireturn, 29), (29, .aload_n 0, 30), (30, .iload_n 1, 31), (31, .iload_n 2, 32), (32, .iload_n 3, 33), (33, .invokestatic 95, 36), (36, .ireturn, 37)]
theorem dec_41_0 : ((il_41.drop 0).take 50).all (fun q => decide (decode prog_23_method_22_code q.1 = .ok (q.2.1, q.2.2 - q.1))) = true := by decide +kernel
-- 42: java/lang/String.indexOf(II)I
def il_42 : List (Nat × Instr × Nat) := [(0, .aload_n 0, 1), (1, .invokevirtual 492, 4), (4, .ifCond .eq 19, 7), (7, .aload_n 0, 8), (8, .getfield 9, 11), (11, .iload_n 1, 12), (12, .iload_n 2, 13), (13, .aload_n 0, 14), (14, .invokevirtual 505, 17), (17, .invokestatic 637, 20), (20, .goto 16, 23), (23, .aload_n 0, 24), (24, .getfield 9, 27), (27, .iload_n 1, 28), (28, .iload_n 2, 29), (29, .aload_n 0, 30), (30, .invokevirtual 505, 33), (33, .invokestatic 640, 36), (36, .ireturn, 37)]
theorem dec_42_0 : ((il_42.drop 0).take 50).all (fun q => decide (decode prog_21_method_80_code q.1 = .ok (q.2.1, q.2.2 - q.1))) = true := by decide +kernel
-- 43: java/lang/String.indexOf(I)I
def il_43 : List (Nat × Instr × Nat) := [(0, .aload_n 0, 1), (1, .iload_n 1, 2), (2, .iconst 0, 3), (3, .invokevirtual 633, 6), (6, .ireturn, 7)]
theorem dec_43_0 : ((il_43.drop 0).take 50).all (fun q => decide (decode prog_21_method_79_code q.1 = .ok (q.2.1, q.2.2 - q.1))) = true := by decide +kernel
-- 44: PipelineSimulator.numbersOf(I)I
def il_44 : List (Nat × Instr × Nat) := [(0, .iload_n 0, 1), (1, .tableswitch 39 0 4 #[35, 35, 35, 37, 37], 36), (36, .iconst 2, 37), (37, .ireturn, 38), (38, .iconst 1, 39), (39, .ireturn, 40), (40, .iconst 0, 41), (41, .ireturn, 42)]
theorem dec_44_0 : ((il_44.drop 0).take 50).all (fun q => decide (decode prog_1_method_26_code q.1 = .ok (q.2.1, q.2.2 - q.1))) = true := by decide +kernel
-- 45: PipelineSimulator$Reader.skip(C)Z
def il_45 : List (Nat × Instr × Nat) := [(0, .aload_n 0, 1), (1, .invokevirtual 38, 4), (4, .iload_n 1, 5), (5, .if_icmp .eq 5, 8), (8, .iconst 0, 9), (9, .ireturn, 10), (10, .aload_n 0, 11), (11, .dup, 12), (12, .getfield 28, 15), (15, .iconst 1, 16), (16, .iadd, 17), (17, .putfield 28, 20), (20, .iconst 1, 21), (21, .ireturn, 22)]
theorem dec_45_0 : ((il_45.drop 0).take 50).all (fun q => decide (decode prog_9_method_6_code q.1 = .ok (q.2.1, q.2.2 - q.1))) = true := by decide +kernel
-- 46: PipelineSimulator$Reader.atDigit()Z
def il_46 : List (Nat × Instr × Nat) := [(0, .aload_n 0, 1), (1, .invokevirtual 38, 4), (4, .bipush 48, 6), (6, .if_icmp .lt 16, 9), (9, .aload_n 0, 10), (10, .invokevirtual 38, 13), (13, .bipush 57, 15), (15, .if_icmp .gt 7, 18), (18, .iconst 1, 19), (19, .goto 4, 22), (22, .iconst 0, 23), (23, .ireturn, 24)]
theorem dec_46_0 : ((il_46.drop 0).take 50).all (fun q => decide (decode prog_9_method_9_code q.1 = .ok (q.2.1, q.2.2 - q.1))) = true := by decide +kernel
-- 47: PipelineSimulator$Reader.readNumber()Z
def il_47 : List (Nat × Instr × Nat) := [(0, .aload_n 0, 1), (1, .bipush 45, 3), (3, .invokevirtual 76, 6), (6, .istore_n 1, 7), (7, .aload_n 0, 8), (8, .invokevirtual 89, 11), (11, .ifCond .ne 5, 14), (14, .iconst 0, 15), (15, .ireturn, 16), (16, .aload_n 0, 17), (17, .aload_n 0, 18), (18, .invokevirtual 38, 21), (21, .bipush 48, 23), (23, .isub, 24), (24, .putfield 86, 27), (27, .aload_n 0, 28), (28, .dup, 29), (29, .getfield 28, 32), (32, .iconst 1, 33), (33, .iadd, 34), (34, .putfield 28, 37), (37, .aload_n 0, 38), (38, .invokevirtual 89, 41), (41, .ifCond .eq 32, 44), (44, .aload_n 0, 45), (45, .aload_n 0, 46), (46, .getfield 86, 49), (49, .bipush 10, 51), (51, .imul, 52), (52, .aload_n 0, 53), (53, .invokevirtual 38, 56), (56, .iadd, 57), (57, .bipush 48, 59), (59, .isub, 60), (60, .putfield 86, 63), (63, .aload_n 0, 64), (64, .dup, 65), (65, .getfield 28, 68), (68, .iconst 1, 69), (69, .iadd, 70), (70, .putfield 28, 73), (73, .iload_n 1, 74), (74, .ifCond .eq 12, 77), (77, .aload_n 0, 78), (78, .aload_n 0, 79), (79, .getfield 86, 82), (82, .ineg, 83), (83, .putfield 86, 86), (86, .iconst 1, 87), (87, .ireturn, 88)]
theorem dec_47_0 : ((il_47.drop 0).take 50).all (fun q => decide (decode prog_9_method_7_code q.1 = .ok (q.2.1, q.2.2 - q.1))) = true := by decide +kernel
-- 48: PipelineSimulator$Reader.inRange(I)Z
def il_48 : List (Nat × Instr × Nat) := [(0, .iload_n 1, 1), (1, .tableswitch 95 1 4 #[31, 95, 52, 73], 32), (32, .aload_n 0, 33), (33, .getfield 86, 36), (36, .ifCond .lt 15, 39), (39, .aload_n 0, 40), (40, .getfield 86, 43), (43, .iconst 2, 44), (44, .if_icmp .gt 7, 47), (47, .iconst 1, 48), (48, .goto 4, 51), (51, .iconst 0, 52), (52, .ireturn, 53), (53, .aload_n 0, 54), (54, .getfield 86, 57), (57, .ifCond .lt 15, 60), (60, .aload_n 0, 61), (61, .getfield 86, 64), (64, .iconst 3, 65), (65, .if_icmp .gt 7, 68), (68, .iconst 1, 69), (69, .goto 4, 72), (72, .iconst 0, 73), (73, .ireturn, 74), (74, .aload_n 0, 75), (75, .getfield 86, 78), (78, .iconst 1, 79), (79, .if_icmp .lt 15, 82), (82, .aload_n 0, 83), (83, .getfield 86, 86), (86, .iconst 5, 87), (87, .if_icmp .gt 7, 90), (90, .iconst 1, 91), (91, .goto 4, 94), (94, .iconst 0, 95), (95, .ireturn, 96), (96, .iconst 1, 97), (97, .ireturn, 98)]
theorem dec_48_0 : ((il_48.drop 0).take 50).all (fun q => decide (decode prog_9_method_8_code q.1 = .ok (q.2.1, q.2.2 - q.1))) = true := by decide +kernel
-- 49: PipelineSimulator$Reader.atInstances()Z
def il_49 : List (Nat × Instr × Nat) := [(0, .aload_n 0, 1), (1, .invokevirtual 38, 4), (4, .bipush 49, 6), (6, .if_icmp .lt 16, 9), (9, .aload_n 0, 10), (10, .invokevirtual 38, 13), (13, .bipush 51, 15), (15, .if_icmp .gt 7, 18), (18, .iconst 1, 19), (19, .goto 4, 22), (22, .iconst 0, 23), (23, .ireturn, 24)]
theorem dec_49_0 : ((il_49.drop 0).take 50).all (fun q => decide (decode prog_9_method_10_code q.1 = .ok (q.2.1, q.2.2 - q.1))) = true := by decide +kernel
-- 50: PipelineSimulator$Reader.readInstances()I
def il_50 : List (Nat × Instr × Nat) := [(0, .aload_n 0, 1), (1, .invokevirtual 46, 4), (4, .ifCond .ne 5, 7), (7, .iconst 1, 8), (8, .ireturn, 9), (9, .aload_n 0, 10), (10, .invokevirtual 38, 13), (13, .bipush 48, 15), (15, .isub, 16), (16, .istore_n 1, 17), (17, .aload_n 0, 18), (18, .dup, 19), (19, .getfield 28, 22), (22, .iconst 1, 23), (23, .iadd, 24), (24, .putfield 28, 27), (27, .iload_n 1, 28), (28, .ireturn, 29)]
theorem dec_50_0 : ((il_50.drop 0).take 50).all (fun q => decide (decode prog_9_method_11_code q.1 = .ok (q.2.1, q.2.2 - q.1))) = true := by decide +kernel
-- 51: PipelineSimulator$Reader.readStage(I)Z
def il_51 : List (Nat × Instr × Nat) := [(0, .aload_n 0, 1), (1, .invokevirtual 38, 4), (4, .istore_n 2, 5), (5, .iload_n 2, 6), (6, .ifCond .ge 7, 9), (9, .iconst (-1), 10), (10, .goto 10, 13), (13, .ldc 65, 15), (15, .iload_n 2, 16), (16, .i2c, 17), (17, .invokevirtual 67, 20), (20, .istore_n 3, 21), (21, .iload_n 3, 22), (22, .ifCond .lt 12, 25), (25, .iload_n 1, 26), (26, .ifCond .lt 8, 29), (29, .iload_n 1, 30), (30, .iconst 4, 31), (31, .if_icmp .lt 5, 34), (34, .iconst 0, 35), (35, .ireturn, 36), (36, .aload_n 0, 37), (37, .dup, 38), (38, .getfield 28, 41), (41, .iconst 1, 42), (42, .iadd, 43), (43, .putfield 28, 46), (46, .aload_n 0, 47), (47, .getfield 9, 50), (50, .iload_n 1, 51), (51, .iload_n 3, 52), (52, .iastore, 53), (53, .aload_n 0, 54), (54, .getfield 15, 57), (57, .iload_n 1, 58), (58, .iconst 0, 59), (59, .iastore, 60), (60, .aload_n 0, 61), (61, .getfield 18, 64), (64, .iload_n 1, 65), (65, .iconst 0, 66), (66, .iastore, 67), (67, .iload_n 3, 68), (68, .invokestatic 73, 71), (71, .istore 4, 73), (73, .iload 4, 75), (75, .ifCond .le 84, 78), (78, .aload_n 0, 79), (79, .bipush 40, 81), (81, .invokevirtual 76, 84), (84, .ifCond .eq 18, 87), (87, .aload_n 0, 88), (88, .invokevirtual 80, 91), (91, .ifCond .eq 11, 94), (94, .aload_n 0, 95), (95, .iload_n 3, 96), (96, .invokevirtual 83, 99), (99, .ifCond .ne 5, 102), (102, .iconst 0, 103), (103, .ireturn, 104), (104, .aload_n 0, 105), (105, .getfield 15, 108), (108, .iload_n 1, 109), (109, .aload_n 0, 110), (110, .getfield 86, 113), (113, .iastore, 114), (114, .iload 4, 116), (116, .iconst 1, 117), (117, .if_icmp .le 31, 120), (120, .aload_n 0, 121), (121, .bipush 44, 123), (123, .invokevirtual 76, 126), (126, .ifCond .eq 10, 129), (129, .aload_n 0, 130), (130, .invokevirtual 80, 133), (133, .ifCond .ne 5, 136), (136, .iconst 0, 137), (137, .ireturn, 138), (138, .aload_n 0, 139), (139, .getfield 18, 142), (142, .iload_n 1, 143), (143, .aload_n 0, 144), (144, .getfield 86, 147), (147, .iastore, 148), (148, .aload_n 0, 149), (149, .bipush 41, 151), (151, .invokevirtual 76, 154), (154, .ifCond .ne 5, 157), (157, .iconst 0, 158), (158, .ireturn, 159), (159, .aload_n 0, 160), (160, .getfield 21, 163), (163, .iload_n 1, 164), (164, .aload_n 0, 165), (165, .invokevirtual 49, 168), (168, .iastore, 169), (169, .iconst 1, 170), (170, .ireturn, 171)]
theorem dec_51_0 : ((il_51.drop 0).take 50).all (fun q => decide (decode prog_9_method_5_code q.1 = .ok (q.2.1, q.2.2 - q.1))) = true := by decide +kernel
theorem dec_51_50 : ((il_51.drop 50).take 50).all (fun q => decide (decode prog_9_method_5_code q.1 = .ok (q.2.1, q.2.2 - q.1))) = true := by decide +kernel
-- 52: PipelineSimulator$Reader.readStages()Z
def il_52 : List (Nat × Instr × Nat) := [(0, .iconst 0, 1), (1, .istore_n 1, 2), (2, .iload_n 1, 3), (3, .iconst 4, 4), (4, .if_icmp .ge 51, 7), (7, .iload_n 1, 8), (8, .ifCond .le 24, 11), (11, .aload_n 0, 12), (12, .invokevirtual 38, 15), (15, .bipush 124, 17), (17, .if_icmp .eq 5, 20), (20, .iconst 1, 21), (21, .ireturn, 22), (22, .aload_n 0, 23), (23, .dup, 24), (24, .getfield 28, 27), (27, .iconst 1, 28), (28, .iadd, 29), (29, .putfield 28, 32), (32, .aload_n 0, 33), (33, .iload_n 1, 34), (34, .invokevirtual 61, 37), (37, .ifCond .ne 5, 40), (40, .iconst 0, 41), (41, .ireturn, 42), (42, .aload_n 0, 43), (43, .iload_n 1, 44), (44, .iconst 1, 45), (45, .iadd, 46), (46, .putfield 32, 49), (49, .iinc 1 1, 52), (52, .goto (-50), 55), (55, .iconst 1, 56), (56, .ireturn, 57)]
theorem dec_52_0 : ((il_52.drop 0).take 50).all (fun q => decide (decode prog_9_method_4_code q.1 = .ok (q.2.1, q.2.2 - q.1))) = true := by decide +kernel
-- 53: PipelineSimulator$Reader.readAll()Z
def il_53 : List (Nat × Instr × Nat) := [(0, .aload_n 0, 1), (1, .iconst 0, 2), (2, .putfield 28, 5), (5, .aload_n 0, 6), (6, .iconst 0, 7), (7, .putfield 32, 10), (10, .aload_n 0, 11), (11, .iconst 1, 12), (12, .putfield 35, 15), (15, .aload_n 0, 16), (16, .invokevirtual 38, 19), (19, .bipush 36, 21), (21, .if_icmp .eq 19, 24), (24, .aload_n 0, 25), (25, .invokevirtual 38, 28), (28, .ifCond .lt 12, 31), (31, .aload_n 0, 32), (32, .invokevirtual 42, 35), (35, .ifCond .ne 5, 38), (38, .iconst 0, 39), (39, .ireturn, 40), (40, .aload_n 0, 41), (41, .invokevirtual 38, 44), (44, .bipush 36, 46), (46, .if_icmp .ne 30, 49), (49, .aload_n 0, 50), (50, .dup, 51), (51, .getfield 28, 54), (54, .iconst 1, 55), (55, .iadd, 56), (56, .putfield 28, 59), (59, .aload_n 0, 60), (60, .invokevirtual 46, 63), (63, .ifCond .ne 5, 66), (66, .iconst 0, 67), (67, .ireturn, 68), (68, .aload_n 0, 69), (69, .aload_n 0, 70), (70, .invokevirtual 49, 73), (73, .putfield 35, 76), (76, .aload_n 0, 77), (77, .invokevirtual 38, 80), (80, .ifCond .ge 7, 83), (83, .iconst 1, 84), (84, .goto 4, 87), (87, .iconst 0, 88), (88, .ireturn, 89)]
theorem dec_53_0 : ((il_53.drop 0).take 50).all (fun q => decide (decode prog_9_method_2_code q.1 = .ok (q.2.1, q.2.2 - q.1))) = true := by decide +kernel
-- 54: java/lang/AbstractStringBuilder.setLength(I)V
def il_54 : List (Nat × Instr × Nat) := [(0, .iload_n 1, 1), (1, .ifCond .ge 12, 4), (4, .new 129, 7), (7, .dup, 8), (8, .iload_n 1, 9), (9, .invokespecial 131, 12), (12, .athrow, 13), (13, .aload_n 0, 14), (14, .iload_n 1, 15), (15, .invokevirtual 100, 18), (18, .aload_n 0, 19), (19, .getfield 79, 22), (22, .iload_n 1, 23), (23, .if_icmp .ge 40, 26), (26, .aload_n 0, 27), (27, .invokevirtual 83, 30), (30, .ifCond .eq 18, 33), (33, .aload_n 0, 34), (34, .getfield 15, 37), (37, .aload_n 0, 38), (38, .getfield 79, 41), (41, .iload_n 1, 42), (42, .invokestatic 133, 45), (45, .goto 31, 48), (48, .aload_n 0, 49), (49, .getfield 15, 52), (52, .aload_n 0, 53), (53, .getfield 79, 56), (56, .iload_n 1, 57), (57, .invokestatic 137, 60), (60, .goto 16, 63), (63, .aload_n 0, 64), (64, .getfield 79, 67), (67, .iload_n 1, 68), (68, .if_icmp .le 8, 71), (71, .aload_n 0, 72), (72, .iconst 1, 73), (73, .putfield 73, 76), (76, .aload_n 0, 77), (77, .iload_n 1, 78), (78, .putfield 79, 81), (81, .return_, 82)]
theorem dec_54_0 : ((il_54.drop 0).take 50).all (fun q => decide (decode prog_15_method_13_code q.1 = .ok (q.2.1, q.2.2 - q.1))) = true := by decide +kernel
-- 55: java/lang/StringBuilder.setLength(I)V
def il_55 : List (Nat × Instr × Nat) := [(0, .aload_n 0, 1), (1, .iload_n 1, 2), (2, .invokespecial 333, 5), (5, .return_, 6)]
theorem dec_55_0 : ((il_55.drop 0).take 50).all (fun q => decide (decode prog_22_method_89_code q.1 = .ok (q.2.1, q.2.2 - q.1))) = true := by decide +kernel
-- 56: PipelineSimulator$Simulation.operatorAt(I)LPipelineSimulator$Operator;
def il_56 : List (Nat × Instr × Nat) := [(0, .iload_n 1, 1), (1, .ifCond .lt 22, 4), (4, .iload_n 1, 5), (5, .aload_n 0, 6), (6, .getfield 50, 9), (9, .iconst 1, 10), (10, .iadd, 11), (11, .if_icmp .gt 12, 14), (14, .iload_n 1, 15), (15, .aload_n 0, 16), (16, .getfield 29, 19), (19, .arraylength, 20), (20, .if_icmp .lt 7, 23), (23, .aconst_null, 24), (24, .goto 9, 27), (27, .aload_n 0, 28), (28, .getfield 29, 31), (31, .iload_n 1, 32), (32, .aaload, 33), (33, .areturn, 34)]
theorem dec_56_0 : ((il_56.drop 0).take 50).all (fun q => decide (decode prog_12_method_2_code q.1 = .ok (q.2.1, q.2.2 - q.1))) = true := by decide +kernel
-- 57: java/util/Arrays.fill([II)V
def il_57 : List (Nat × Instr × Nat) := [(0, .iconst 0, 1), (1, .istore_n 2, 2), (2, .aload_n 0, 3), (3, .arraylength, 4), (4, .istore_n 3, 5), (5, .iload_n 2, 6), (6, .iload_n 3, 7), (7, .if_icmp .ge 13, 10), (10, .aload_n 0, 11), (11, .iload_n 2, 12), (12, .iload_n 1, 13), (13, .iastore, 14), (14, .iinc 2 1, 17), (17, .goto (-12), 20), (20, .return_, 21)]
theorem dec_57_0 : ((il_57.drop 0).take 50).all (fun q => decide (decode prog_26_method_103_code q.1 = .ok (q.2.1, q.2.2 - q.1))) = true := by decide +kernel
-- 58: PipelineSimulator$Keyed.wipe()V
def il_58 : List (Nat × Instr × Nat) := [(0, .aload_n 0, 1), (1, .getfield 9, 4), (4, .iconst 0, 5), (5, .invokestatic 28, 8), (8, .aload_n 0, 9), (9, .getfield 15, 12), (12, .iconst 0, 13), (13, .invokestatic 28, 16), (16, .aload_n 0, 17), (17, .iconst 0, 18), (18, .putfield 18, 21), (21, .return_, 22)]
theorem dec_58_0 : ((il_58.drop 0).take 50).all (fun q => decide (decode prog_5_method_9_code q.1 = .ok (q.2.1, q.2.2 - q.1))) = true := by decide +kernel
-- 59: PipelineSimulator$Instance.resetCounters()V
def il_59 : List (Nat × Instr × Nat) := [(0, .aload_n 0, 1), (1, .iconst 0, 2), (2, .putfield 18, 5), (5, .aload_n 0, 6), (6, .iconst 0, 7), (7, .putfield 22, 10), (10, .return_, 11)]
theorem dec_59_0 : ((il_59.drop 0).take 50).all (fun q => decide (decode prog_4_method_2_code q.1 = .ok (q.2.1, q.2.2 - q.1))) = true := by decide +kernel
-- 60: PipelineSimulator$Operator.resetCounters()V
def il_60 : List (Nat × Instr × Nat) := [(0, .aload_n 0, 1), (1, .getfield 11, 4), (4, .astore_n 1, 5), (5, .aload_n 1, 6), (6, .arraylength, 7), (7, .istore_n 2, 8), (8, .iconst 0, 9), (9, .istore_n 3, 10), (10, .iload_n 3, 11), (11, .iload_n 2, 12), (12, .if_icmp .ge 24, 15), (15, .aload_n 1, 16), (16, .iload_n 3, 17), (17, .aaload, 18), (18, .astore 4, 20), (20, .aload 4, 22), (22, .ifnull 8, 25), (25, .aload 4, 27), (27, .invokevirtual 86, 30), (30, .iinc 3 1, 33), (33, .goto (-23), 36), (36, .return_, 37)]
theorem dec_60_0 : ((il_60.drop 0).take 50).all (fun q => decide (decode prog_7_method_8_code q.1 = .ok (q.2.1, q.2.2 - q.1))) = true := by decide +kernel
-- 61: PipelineSimulator$Operator.forgetAll()V
def il_61 : List (Nat × Instr × Nat) := [(0, .aload_n 0, 1), (1, .getfield 27, 4), (4, .invokevirtual 68, 7), (7, .aload_n 0, 8), (8, .iconst 0, 9), (9, .putfield 71, 12), (12, .aload_n 0, 13), (13, .iconst 0, 14), (14, .putfield 74, 17), (17, .aload_n 0, 18), (18, .iconst 0, 19), (19, .putfield 77, 22), (22, .aload_n 0, 23), (23, .iconst 0, 24), (24, .putfield 80, 27), (27, .aload_n 0, 28), (28, .invokevirtual 83, 31), (31, .return_, 32)]
theorem dec_61_0 : ((il_61.drop 0).take 50).all (fun q => decide (decode prog_7_method_7_code q.1 = .ok (q.2.1, q.2.2 - q.1))) = true := by decide +kernel
-- 62: PipelineSimulator$Latencies.wipe()V
def il_62 : List (Nat × Instr × Nat) := [(0, .aload_n 0, 1), (1, .getfield 7, 4), (4, .iconst 0, 5), (5, .invokestatic 38, 8), (8, .aload_n 0, 9), (9, .iconst 0, 10), (10, .putfield 29, 13), (13, .aload_n 0, 14), (14, .iconst 0, 15), (15, .putfield 33, 18), (18, .return_, 19)]
theorem dec_62_0 : ((il_62.drop 0).take 50).all (fun q => decide (decode prog_6_method_4_code q.1 = .ok (q.2.1, q.2.2 - q.1))) = true := by decide +kernel
-- 63: PipelineSimulator$Records.wipe()V
def il_63 : List (Nat × Instr × Nat) := [(0, .aload_n 0, 1), (1, .iconst 0, 2), (2, .putfield 26, 5), (5, .aload_n 0, 6), (6, .iconst 0, 7), (7, .putfield 23, 10), (10, .return_, 11)]
theorem dec_63_0 : ((il_63.drop 0).take 50).all (fun q => decide (decode prog_10_method_7_code q.1 = .ok (q.2.1, q.2.2 - q.1))) = true := by decide +kernel
-- 64: PipelineSimulator$Channel.wipe()V
def il_64 : List (Nat × Instr × Nat) := [(0, .aload_n 0, 1), (1, .getfield 12, 4), (4, .invokevirtual 65, 7), (7, .aload_n 0, 8), (8, .iconst 0, 9), (9, .putfield 59, 12), (12, .aload_n 0, 13), (13, .iconst 0, 14), (14, .putfield 26, 17), (17, .aload_n 0, 18), (18, .iconst 0, 19), (19, .putfield 35, 22), (22, .aload_n 0, 23), (23, .iconst 0, 24), (24, .putfield 55, 27), (27, .return_, 28)]
theorem dec_64_0 : ((il_64.drop 0).take 50).all (fun q => decide (decode prog_2_method_12_code q.1 = .ok (q.2.1, q.2.2 - q.1))) = true := by decide +kernel
-- 65: PipelineSimulator$Keyed.copyAll(LPipelineSimulator$Keyed;)V
def il_65 : List (Nat × Instr × Nat) := [(0, .aload_n 1, 1), (1, .getfield 9, 4), (4, .iconst 0, 5), (5, .aload_n 0, 6), (6, .getfield 9, 9), (9, .iconst 0, 10), (10, .bipush 16, 12), (12, .invokestatic 22, 15), (15, .aload_n 1, 16), (16, .getfield 15, 19), (19, .iconst 0, 20), (20, .aload_n 0, 21), (21, .getfield 15, 24), (24, .iconst 0, 25), (25, .bipush 16, 27), (27, .invokestatic 22, 30), (30, .aload_n 0, 31), (31, .aload_n 1, 32), (32, .getfield 18, 35), (35, .putfield 18, 38), (38, .return_, 39)]
theorem dec_65_0 : ((il_65.drop 0).take 50).all (fun q => decide (decode prog_5_method_8_code q.1 = .ok (q.2.1, q.2.2 - q.1))) = true := by decide +kernel
-- 66: PipelineSimulator$Instance.returnToSaved()V
def il_66 : List (Nat × Instr × Nat) := [(0, .aload_n 0, 1), (1, .getfield 12, 4), (4, .invokevirtual 25, 7), (7, .aload_n 0, 8), (8, .iconst 0, 9), (9, .putfield 28, 12), (12, .aload_n 0, 13), (13, .iconst 0, 14), (14, .putfield 32, 17), (17, .aload_n 0, 18), (18, .iconst 0, 19), (19, .putfield 35, 22), (22, .aload_n 0, 23), (23, .aload_n 0, 24), (24, .getfield 22, 27), (27, .putfield 18, 30), (30, .return_, 31)]
theorem dec_66_0 : ((il_66.drop 0).take 50).all (fun q => decide (decode prog_4_method_3_code q.1 = .ok (q.2.1, q.2.2 - q.1))) = true := by decide +kernel
-- 67: PipelineSimulator$Operator.returnToSaved()V
def il_67 : List (Nat × Instr × Nat) := [(0, .aload_n 0, 1), (1, .getfield 20, 4), (4, .aload_n 0, 5), (5, .getfield 27, 8), (8, .invokevirtual 87, 11), (11, .aload_n 0, 12), (12, .getfield 11, 15), (15, .astore_n 1, 16), (16, .aload_n 1, 17), (17, .arraylength, 18), (18, .istore_n 2, 19), (19, .iconst 0, 20), (20, .istore_n 3, 21), (21, .iload_n 3, 22), (22, .iload_n 2, 23), (23, .if_icmp .ge 24, 26), (26, .aload_n 1, 27), (27, .iload_n 3, 28), (28, .aaload, 29), (29, .astore 4, 31), (31, .aload 4, 33), (33, .ifnull 8, 36), (36, .aload 4, 38), (38, .invokevirtual 91, 41), (41, .iinc 3 1, 44), (44, .goto (-23), 47), (47, .return_, 48)]
theorem dec_67_0 : ((il_67.drop 0).take 50).all (fun q => decide (decode prog_7_method_9_code q.1 = .ok (q.2.1, q.2.2 - q.1))) = true := by decide +kernel
-- 68: PipelineSimulator$Simulation.returnToSaved()V
def il_68 : List (Nat × Instr × Nat) := [(0, .aload_n 0, 1), (1, .iconst 0, 2), (2, .putfield 126, 5), (5, .aload_n 0, 6), (6, .aload_n 0, 7), (7, .getfield 97, 10), (10, .putfield 135, 13), (13, .aload_n 0, 14), (14, .getfield 35, 17), (17, .astore_n 1, 18), (18, .aload_n 1, 19), (19, .arraylength, 20), (20, .istore_n 2, 21), (21, .iconst 0, 22), (22, .istore_n 3, 23), (23, .iload_n 3, 24), (24, .iload_n 2, 25), (25, .if_icmp .ge 24, 28), (28, .aload_n 1, 29), (29, .iload_n 3, 30), (30, .aaload, 31), (31, .astore 4, 33), (33, .aload 4, 35), (35, .ifnull 8, 38), (38, .aload 4, 40), (40, .invokevirtual 221, 43), (43, .iinc 3 1, 46), (46, .goto (-23), 49), (49, .aload_n 0, 50), (50, .getfield 29, 53), (53, .astore_n 1, 54), (54, .aload_n 1, 55), (55, .arraylength, 56), (56, .istore_n 2, 57), (57, .iconst 0, 58), (58, .istore_n 3, 59), (59, .iload_n 3, 60), (60, .iload_n 2, 61), (61, .if_icmp .ge 24, 64), (64, .aload_n 1, 65), (65, .iload_n 3, 66), (66, .aaload, 67), (67, .astore 4, 69), (69, .aload 4, 71), (71, .ifnull 8, 74), (74, .aload 4, 76), (76, .invokevirtual 222, 79), (79, .iinc 3 1, 82), (82, .goto (-23), 85), (85, .return_, 86)]
theorem dec_68_0 : ((il_68.drop 0).take 50).all (fun q => decide (decode prog_12_method_19_code q.1 = .ok (q.2.1, q.2.2 - q.1))) = true := by decide +kernel
-- 69: PipelineSimulator$Simulation.beginAnew()V
def il_69 : List (Nat × Instr × Nat) := [(0, .aload_n 0, 1), (1, .getfield 29, 4), (4, .astore_n 1, 5), (5, .aload_n 1, 6), (6, .arraylength, 7), (7, .istore_n 2, 8), (8, .iconst 0, 9), (9, .istore_n 3, 10), (10, .iload_n 3, 11), (11, .iload_n 2, 12), (12, .if_icmp .ge 24, 15), (15, .aload_n 1, 16), (16, .iload_n 3, 17), (17, .aaload, 18), (18, .astore 4, 20), (20, .aload 4, 22), (22, .ifnull 8, 25), (25, .aload 4, 27), (27, .invokevirtual 91, 30), (30, .iinc 3 1, 33), (33, .goto (-23), 36), (36, .aload_n 0, 37), (37, .getfield 42, 40), (40, .invokevirtual 94, 43), (43, .aload_n 0, 44), (44, .iconst 0, 45), (45, .putfield 97, 48), (48, .aload_n 0, 49), (49, .iconst 0, 50), (50, .putfield 100, 53), (53, .aload_n 0, 54), (54, .iconst 0, 55), (55, .putfield 103, 58), (58, .aload_n 0, 59), (59, .iconst 0, 60), (60, .putfield 106, 63), (63, .aload_n 0, 64), (64, .invokevirtual 110, 67), (67, .aload_n 0, 68), (68, .iconst 0, 69), (69, .putfield 113, 72), (72, .return_, 73)]
theorem dec_69_0 : ((il_69.drop 0).take 50).all (fun q => decide (decode prog_12_method_7_code q.1 = .ok (q.2.1, q.2.2 - q.1))) = true := by decide +kernel
-- 70: PipelineSimulator$Simulation.replacePipeline(LPipelineSimulator$Reader;)V
def il_70 : List (Nat × Instr × Nat) := [(0, .aload_n 0, 1), (1, .aload_n 1, 2), (2, .getfield 65, 5), (5, .putfield 50, 8), (8, .iconst 0, 9), (9, .istore_n 2, 10), (10, .iload_n 2, 11), (11, .aload_n 0, 12), (12, .getfield 50, 15), (15, .if_icmp .ge 54, 18), (18, .iload_n 2, 19), (19, .iconst 4, 20), (20, .if_icmp .ge 49, 23), (23, .aload_n 0, 24), (24, .iload_n 2, 25), (25, .iconst 1, 26), (26, .iadd, 27), (27, .invokevirtual 54, 30), (30, .astore_n 3, 31), (31, .aload_n 3, 32), (32, .ifnull 31, 35), (35, .aload_n 3, 36), (36, .aload_n 1, 37), (37, .getfield 68, 40), (40, .iload_n 2, 41), (41, .iaload, 42), (42, .aload_n 1, 43), (43, .getfield 72, 46), (46, .iload_n 2, 47), (47, .iaload, 48), (48, .aload_n 1, 49), (49, .getfield 75, 52), (52, .iload_n 2, 53), (53, .iaload, 54), (54, .aload_n 1, 55), (55, .getfield 78, 58), (58, .iload_n 2, 59), (59, .iaload, 60), (60, .invokevirtual 81, 63), (63, .iinc 2 1, 66), (66, .goto (-56), 69), (69, .aload_n 0, 70), (70, .aload_n 0, 71), (71, .getfield 50, 74), (74, .iconst 1, 75), (75, .iadd, 76), (76, .invokevirtual 54, 79), (79, .astore_n 2, 80), (80, .aload_n 2, 81), (81, .ifnull 15, 84), (84, .aload_n 2, 85), (85, .bipush 8, 87), (87, .iconst 0, 88), (88, .iconst 0, 89), (89, .aload_n 1, 90), (90, .getfield 85, 93), (93, .invokevirtual 81, 96), (96, .aload_n 0, 97), (97, .invokevirtual 88, 100), (100, .return_, 101)]
theorem dec_70_0 : ((il_70.drop 0).take 50).all (fun q => decide (decode prog_12_method_6_code q.1 = .ok (q.2.1, q.2.2 - q.1))) = true := by decide +kernel
theorem dec_70_50 : ((il_70.drop 50).take 50).all (fun q => decide (decode prog_12_method_6_code q.1 = .ok (q.2.1, q.2.2 - q.1))) = true := by decide +kernel
-- 71: PipelineSimulator$Plain.forget()V
def il_71 : List (Nat × Instr × Nat) := [(0, .aload_n 0, 1), (1, .iconst 0, 2), (2, .putfield 15, 5), (5, .iconst 0, 6), (6, .istore_n 1, 7), (7, .iload_n 1, 8), (8, .aload_n 0, 9), (9, .getfield 9, 12), (12, .getfield 19, 15), (15, .iconst 1, 16), (16, .iadd, 17), (17, .if_icmp .gt 29, 20), (20, .aload_n 0, 21), (21, .getfield 9, 24), (24, .iload_n 1, 25), (25, .invokevirtual 24, 28), (28, .astore_n 2, 29), (29, .aload_n 2, 30), (30, .ifnull 10, 33), (33, .aload_n 2, 34), (34, .getfield 28, 37), (37, .invokevirtual 34, 40), (40, .iinc 1 1, 43), (43, .goto (-36), 46), (46, .return_, 47)]
theorem dec_71_0 : ((il_71.drop 0).take 50).all (fun q => decide (decode prog_8_method_2_code q.1 = .ok (q.2.1, q.2.2 - q.1))) = true := by decide +kernel
-- 72: PipelineSimulator.readPipeline()I
def il_72 : List (Nat × Instr × Nat) := [(0, .aload_n 0, 1), (1, .getfield 24, 4), (4, .invokevirtual 61, 7), (7, .istore_n 1, 8), (8, .aload_n 0, 9), (9, .getfield 10, 12), (12, .iconst 0, 13), (13, .invokevirtual 65, 16), (16, .iload_n 1, 17), (17, .ifCond .ne 15, 20), (20, .sipush (-2000), 23), (23, .aload_n 0, 24), (24, .getfield 24, 27), (27, .getfield 69, 30), (30, .isub, 31), (31, .ireturn, 32), (32, .aload_n 0, 33), (33, .getfield 31, 36), (36, .aload_n 0, 37), (37, .getfield 24, 40), (40, .invokevirtual 73, 43), (43, .aload_n 0, 44), (44, .getfield 40, 47), (47, .invokevirtual 77, 50), (50, .aload_n 0, 51), (51, .getfield 31, 54), (54, .getfield 80, 57), (57, .ireturn, 58)]
theorem dec_72_0 : ((il_72.drop 0).take 50).all (fun q => decide (decode prog_1_method_3_code q.1 = .ok (q.2.1, q.2.2 - q.1))) = true := by decide +kernel
-- 73: PipelineSimulatorModel.here()I
def il_73 : List (Nat × Instr × Nat) := [(0, .aload_n 0, 1), (1, .getfield 212, 4), (4, .aload_n 0, 5), (5, .getfield 208, 8), (8, .if_icmp .ge 15, 11), (11, .aload_n 0, 12), (12, .getfield 9, 15), (15, .aload_n 0, 16), (16, .getfield 212, 19), (19, .iaload, 20), (20, .goto 4, 23), (23, .iconst (-1), 24), (24, .ireturn, 25)]
theorem dec_73_0 : ((il_73.drop 0).take 50).all (fun q => decide (decode prog_14_method_8_code q.1 = .ok (q.2.1, q.2.2 - q.1))) = true := by decide +kernel
-- 74: PipelineSimulatorModel.letter(I)I
def il_74 : List (Nat × Instr × Nat) := [(0, .iload_n 0, 1), (1, .bipush 109, 3), (3, .if_icmp .ne 7, 6), (6, .iconst 0, 7), (7, .goto 65, 10), (10, .iload_n 0, 11), (11, .bipush 102, 13), (13, .if_icmp .ne 7, 16), (16, .iconst 1, 17), (17, .goto 55, 20), (20, .iload_n 0, 21), (21, .bipush 107, 23), (23, .if_icmp .ne 7, 26), (26, .iconst 2, 27), (27, .goto 45, 30), (30, .iload_n 0, 31), (31, .bipush 99, 33), (33, .if_icmp .ne 7, 36), (36, .iconst 3, 37), (37, .goto 35, 40), (40, .iload_n 0, 41), (41, .bipush 115, 43), (43, .if_icmp .ne 7, 46), (46, .iconst 4, 47), (47, .goto 25, 50), (50, .iload_n 0, 51), (51, .bipush 100, 53), (53, .if_icmp .ne 7, 56), (56, .iconst 5, 57), (57, .goto 15, 60), (60, .iload_n 0, 61), (61, .bipush 114, 63), (63, .if_icmp .ne 8, 66), (66, .bipush 6, 68), (68, .goto 4, 71), (71, .iconst (-1), 72), (72, .ireturn, 73)]
theorem dec_74_0 : ((il_74.drop 0).take 50).all (fun q => decide (decode prog_14_method_11_code q.1 = .ok (q.2.1, q.2.2 - q.1))) = true := by decide +kernel
-- 75: PipelineSimulatorModel.sign(I)V
def il_75 : List (Nat × Instr × Nat) := [(0, .aload_n 0, 1), (1, .dup, 2), (2, .getfield 215, 5), (5, .aload_n 0, 6), (6, .invokevirtual 219, 9), (9, .iload_n 1, 10), (10, .if_icmp .eq 7, 13), (13, .iconst 1, 14), (14, .goto 4, 17), (17, .iconst 0, 18), (18, .ior, 19), (19, .putfield 215, 22), (22, .aload_n 0, 23), (23, .dup, 24), (24, .getfield 212, 27), (27, .aload_n 0, 28), (28, .getfield 215, 31), (31, .ifCond .eq 7, 34), (34, .iconst 0, 35), (35, .goto 4, 38), (38, .iconst 1, 39), (39, .iadd, 40), (40, .putfield 212, 43), (43, .return_, 44)]
theorem dec_75_0 : ((il_75.drop 0).take 50).all (fun q => decide (decode prog_14_method_9_code q.1 = .ok (q.2.1, q.2.2 - q.1))) = true := by decide +kernel
-- 76: PipelineSimulatorModel.number(II)I
def il_76 : List (Nat × Instr × Nat) := [(0, .aload_n 0, 1), (1, .invokevirtual 219, 4), (4, .bipush 45, 6), (6, .if_icmp .ne 7, 9), (9, .iconst 1, 10), (10, .goto 4, 13), (13, .iconst 0, 14), (14, .istore_n 3, 15), (15, .aload_n 0, 16), (16, .dup, 17), (17, .getfield 212, 20), (20, .iload_n 3, 21), (21, .ifCond .eq 7, 24), (24, .iconst 1, 25), (25, .goto 4, 28), (28, .iconst 0, 29), (29, .iadd, 30), (30, .putfield 212, 33), (33, .aload_n 0, 34), (34, .dup, 35), (35, .getfield 215, 38), (38, .aload_n 0, 39), (39, .invokevirtual 219, 42), (42, .bipush 48, 44), (44, .bipush 57, 46), (46, .invokestatic 203, 49), (49, .ifCond .ne 7, 52), (52, .iconst 1, 53), (53, .goto 4, 56), (56, .iconst 0, 57), (57, .ior, 58), (58, .putfield 215, 61), (61, .aload_n 0, 62), (62, .getfield 215, 65), (65, .ifCond .eq 5, 68), (68, .iconst 0, 69), (69, .ireturn, 70), (70, .aload_n 0, 71), (71, .invokevirtual 219, 74), (74, .bipush 48, 76), (76, .isub, 77), (77, .istore 4, 79), (79, .aload_n 0, 80), (80, .dup, 81), (81, .getfield 212, 84), (84, .iconst 1, 85), (85, .iadd, 86), (86, .putfield 212, 89), (89, .aload_n 0, 90), (90, .invokevirtual 219, 93), (93, .bipush 48, 95), (95, .bipush 57, 97), (97, .invokestatic 203, 100), (100, .ifCond .eq 28, 103), (103, .bipush 10, 105), (105, .iload 4, 107), (107, .imul, 108), (108, .aload_n 0, 109), (109, .invokevirtual 219, 112), (112, .iadd, 113), (113, .bipush 48, 115), (115, .isub, 116), (116, .istore 4, 118), (118, .aload_n 0, 119), (119, .dup, 120), (120, .getfield 212, 123), (123, .iconst 1, 124), (124, .iadd, 125), (125, .putfield 212, 128), (128, .iload_n 3, 129), (129, .ifCond .eq 9, 132), (132, .iload 4, 134), (134, .ineg, 135), (135, .goto 5, 138), (138, .iload 4, 140), (140, .istore 4, 142), (142, .aload_n 0, 143), (143, .dup, 144), (144, .getfield 215, 147), (147, .iload 4, 149), (149, .iload_n 1, 150), (150, .iload_n 2, 151), (151, .invokestatic 203, 154), (154, .ifCond .ne 7, 157), (157, .iconst 1, 158), (158, .goto 4, 161), (161, .iconst 0, 162), (162, .ior, 163), (163, .putfield 215, 166), (166, .iload 4, 168), (168, .ireturn, 169)]
theorem dec_76_0 : ((il_76.drop 0).take 50).all (fun q => decide (decode prog_14_method_10_code q.1 = .ok (q.2.1, q.2.2 - q.1))) = true := by decide +kernel
theorem dec_76_50 : ((il_76.drop 50).take 50).all (fun q => decide (decode prog_14_method_10_code q.1 = .ok (q.2.1, q.2.2 - q.1))) = true := by decide +kernel
-- 77: PipelineSimulatorModel.instances()I
def il_77 : List (Nat × Instr × Nat) := [(0, .aload_n 0, 1), (1, .invokevirtual 219, 4), (4, .bipush 48, 6), (6, .isub, 7), (7, .istore_n 1, 8), (8, .aload_n 0, 9), (9, .dup, 10), (10, .getfield 215, 13), (13, .iload_n 1, 14), (14, .iconst 1, 15), (15, .iconst 3, 16), (16, .invokestatic 203, 19), (19, .ifCond .ne 7, 22), (22, .iconst 1, 23), (23, .goto 4, 26), (26, .iconst 0, 27), (27, .ior, 28), (28, .putfield 215, 31), (31, .aload_n 0, 32), (32, .dup, 33), (33, .getfield 212, 36), (36, .aload_n 0, 37), (37, .getfield 215, 40), (40, .ifCond .eq 7, 43), (43, .iconst 0, 44), (44, .goto 4, 47), (47, .iconst 1, 48), (48, .iadd, 49), (49, .putfield 212, 52), (52, .iload_n 1, 53), (53, .ireturn, 54)]
theorem dec_77_0 : ((il_77.drop 0).take 50).all (fun q => decide (decode prog_14_method_13_code q.1 = .ok (q.2.1, q.2.2 - q.1))) = true := by decide +kernel
-- 78: PipelineSimulatorModel.stage(I)V
def il_78 : List (Nat × Instr × Nat) := [(0, .aload_n 0, 1), (1, .invokevirtual 219, 4), (4, .invokestatic 222, 7), (7, .istore_n 2, 8), (8, .aload_n 0, 9), (9, .dup, 10), (10, .getfield 215, 13), (13, .iload_n 2, 14), (14, .ifCond .ge 7, 17), (17, .iconst 1, 18), (18, .goto 4, 21), (21, .iconst 0, 22), (22, .ior, 23), (23, .putfield 215, 26), (26, .aload_n 0, 27), (27, .getfield 215, 30), (30, .ifCond .eq 4, 33), (33, .return_, 34), (34, .aload_n 0, 35), (35, .dup, 36), (36, .getfield 212, 39), (39, .iconst 1, 40), (40, .iadd, 41), (41, .putfield 212, 44), (44, .aload_n 0, 45), (45, .getfield 151, 48), (48, .iload_n 1, 49), (49, .iload_n 2, 50), (50, .iastore, 51), (51, .aload_n 0, 52), (52, .getfield 154, 55), (55, .iload_n 1, 56), (56, .iconst 0, 57), (57, .iastore, 58), (58, .aload_n 0, 59), (59, .getfield 157, 62), (62, .iload_n 1, 63), (63, .iconst 0, 64), (64, .iastore, 65), (65, .aload_n 0, 66), (66, .getfield 160, 69), (69, .iload_n 1, 70), (70, .iconst 1, 71), (71, .iastore, 72), (72, .iload_n 2, 73), (73, .iconst 5, 74), (74, .if_icmp .ge 137, 77), (77, .aload_n 0, 78), (78, .bipush 40, 80), (80, .invokevirtual 226, 83), (83, .aload_n 0, 84), (84, .getfield 215, 87), (87, .ifCond .ne 67, 90), (90, .aload_n 0, 91), (91, .getfield 154, 94), (94, .iload_n 1, 95), (95, .aload_n 0, 96), (96, .iload_n 2, 97), (97, .iconst 1, 98), (98, .if_icmp .eq 8, 101), (101, .iload_n 2, 102), (102, .iconst 3, 103), (103, .if_icmp .ne 7, 106), (106, .iconst 0, 107), (107, .goto 14, 110), (110, .iload_n 2, 111), (111, .iconst 4, 112), (112, .if_icmp .ne 7, 115), (115, .iconst 1, 116), (116, .goto 5, 119), (119, .bipush (-99), 121), (121, .iload_n 2, 122), (122, .iconst 1, 123), (123, .if_icmp .ne 7, 126), (126, .iconst 2, 127), (127, .goto 23, 130), (130, .iload_n 2, 131), (131, .iconst 3, 132), (132, .if_icmp .ne 7, 135), (135, .iconst 3, 136), (136, .goto 14, 139), (139, .iload_n 2, 140), (140, .iconst 4, 141), (141, .if_icmp .ne 7, 144), (144, .iconst 5, 145), (145, .goto 5, 148), (148, .bipush 99, 150), (150, .invokevirtual 230, 153), (153, .iastore, 154), (154, .aload_n 0, 155), (155, .getfield 215, 158), (158, .ifCond .ne 14, 161), (161, .iload_n 2, 162), (162, .iconst 3, 163), (163, .if_icmp .ge 9, 166), (166, .aload_n 0, 167), (167, .bipush 44, 169), (169, .invokevirtual 226, 172), (172, .aload_n 0, 173), (173, .getfield 215, 176), (176, .ifCond .ne 22, 179), (179, .iload_n 2, 180), (180, .iconst 3, 181), (181, .if_icmp .ge 17, 184), (184, .aload_n 0, 185), (185, .getfield 157, 188), (188, .iload_n 1, 189), (189, .aload_n 0, 190), (190, .bipush (-99), 192), (192, .bipush 99, 194), (194, .invokevirtual 230, 197), (197, .iastore, 198), (198, .aload_n 0, 199), (199, .getfield 215, 202), (202, .ifCond .ne 9, 205), (205, .aload_n 0, 206), (206, .bipush 41, 208), (208, .invokevirtual 226, 211), (211, .aload_n 0, 212), (212, .getfield 215, 215), (215, .ifCond .ne 27, 218), (218, .aload_n 0, 219), (219, .invokevirtual 219, 222), (222, .bipush 48, 224), (224, .bipush 57, 226), (226, .invokestatic 203, 229), (229, .ifCond .eq 13, 232), (232, .aload_n 0, 233), (233, .getfield 160, 236), (236, .iload_n 1, 237), (237, .aload_n 0, 238), (238, .invokevirtual 234, 241), (241, .iastore, 242), (242, .return_, 243)]
theorem dec_78_0 : ((il_78.drop 0).take 50).all (fun q => decide (decode prog_14_method_12_code q.1 = .ok (q.2.1, q.2.2 - q.1))) = true := by decide +kernel
theorem dec_78_50 : ((il_78.drop 50).take 50).all (fun q => decide (decode prog_14_method_12_code q.1 = .ok (q.2.1, q.2.2 - q.1))) = true := by decide +kernel
theorem dec_78_100 : ((il_78.drop 100).take 50).all (fun q => decide (decode prog_14_method_12_code q.1 = .ok (q.2.1, q.2.2 - q.1))) = true := by decide +kernel
-- 79: PipelineSimulatorModel.breaks()V
def il_79 : List (Nat × Instr × Nat) := [(0, .aload_n 0, 1), (1, .iconst 0, 2), (2, .putfield 268, 5), (5, .iconst 0, 6), (6, .istore_n 1, 7), (7, .iload_n 1, 8), (8, .bipush 18, 10), (10, .if_icmp .ge 49, 13), (13, .aload_n 0, 14), (14, .getfield 93, 17), (17, .iload_n 1, 18), (18, .iconst 0, 19), (19, .iastore, 20), (20, .aload_n 0, 21), (21, .getfield 105, 24), (24, .iload_n 1, 25), (25, .iconst 0, 26), (26, .iastore, 27), (27, .aload_n 0, 28), (28, .getfield 108, 31), (31, .iload_n 1, 32), (32, .iconst 0, 33), (33, .iastore, 34), (34, .aload_n 0, 35), (35, .getfield 111, 38), (38, .iload_n 1, 39), (39, .iconst 0, 40), (40, .bastore, 41), (41, .aload_n 0, 42), (42, .getfield 84, 45), (45, .iload_n 1, 46), (46, .aload_n 0, 47), (47, .getfield 90, 50), (50, .iload_n 1, 51), (51, .iaload, 52), (52, .iastore, 53), (53, .iinc 1 1, 56), (56, .goto (-49), 59), (59, .iconst 0, 60), (60, .istore_n 1, 61), (61, .iload_n 1, 62), (62, .bipush 54, 64), (64, .if_icmp .ge 37, 67), (67, .aload_n 0, 68), (68, .getfield 114, 71), (71, .iload_n 1, 72), (72, .iconst 0, 73), (73, .iastore, 74), (74, .aload_n 0, 75), (75, .getfield 117, 78), (78, .iload_n 1, 79), (79, .iconst 0, 80), (80, .iastore, 81), (81, .aload_n 0, 82), (82, .getfield 129, 85), (85, .iload_n 1, 86), (86, .iconst 0, 87), (87, .iastore, 88), (88, .aload_n 0, 89), (89, .getfield 132, 92), (92, .iload_n 1, 93), (93, .iconst 0, 94), (94, .iastore, 95), (95, .iinc 1 1, 98), (98, .goto (-37), 101), (101, .iconst 0, 102), (102, .istore_n 1, 103), (103, .iload_n 1, 104), (104, .bipush 96, 106), (106, .if_icmp .ge 45, 109), (109, .aload_n 0, 110), (110, .getfield 56, 113), (113, .iload_n 1, 114), (114, .aload_n 0, 115), (115, .getfield 63, 118), (118, .iload_n 1, 119), (119, .baload, 120), (120, .bastore, 121), (121, .aload_n 0, 122), (122, .getfield 66, 125), (125, .iload_n 1, 126), (126, .aload_n 0, 127), (127, .getfield 72, 130), (130, .iload_n 1, 131), (131, .iaload, 132), (132, .iastore, 133), (133, .aload_n 0, 134), (134, .getfield 75, 137), (137, .iload_n 1, 138), (138, .aload_n 0, 139), (139, .getfield 81, 142), (142, .iload_n 1, 143), (143, .iaload, 144), (144, .iastore, 145), (145, .iinc 1 1, 148), (148, .goto (-45), 151), (151, .aload_n 0, 152), (152, .aload_n 0, 153), (153, .getfield 262, 156), (156, .putfield 271, 159), (159, .return_, 160)]
theorem dec_79_0 : ((il_79.drop 0).take 50).all (fun q => decide (decode prog_14_method_16_code q.1 = .ok (q.2.1, q.2.2 - q.1))) = true := by decide +kernel
theorem dec_79_50 : ((il_79.drop 50).take 50).all (fun q => decide (decode prog_14_method_16_code q.1 = .ok (q.2.1, q.2.2 - q.1))) = true := by decide +kernel
theorem dec_79_100 : ((il_79.drop 100).take 50).all (fun q => decide (decode prog_14_method_16_code q.1 = .ok (q.2.1, q.2.2 - q.1))) = true := by decide +kernel
-- 80: PipelineSimulatorModel.begins()V
def il_80 : List (Nat × Instr × Nat) := [(0, .aload_n 0, 1), (1, .iconst 0, 2), (2, .putfield 243, 5), (5, .aload_n 0, 6), (6, .iconst 0, 7), (7, .putfield 246, 10), (10, .aload_n 0, 11), (11, .lconst 0, 12), (12, .putfield 249, 15), (15, .iconst 0, 16), (16, .istore_n 1, 17), (17, .iload_n 1, 18), (18, .ldc 147, 20), (20, .if_icmp .ge 16, 23), (23, .aload_n 0, 24), (24, .getfield 148, 27), (27, .iload_n 1, 28), (28, .iconst 0, 29), (29, .iastore, 30), (30, .iinc 1 1, 33), (33, .goto (-16), 36), (36, .aload_n 0, 37), (37, .iconst 0, 38), (38, .putfield 253, 41), (41, .aload_n 0, 42), (42, .iconst 0, 43), (43, .putfield 256, 46), (46, .aload_n 0, 47), (47, .iconst 0, 48), (48, .putfield 259, 51), (51, .aload_n 0, 52), (52, .iconst 0, 53), (53, .putfield 262, 56), (56, .iconst 0, 57), (57, .istore_n 1, 58), (58, .iload_n 1, 59), (59, .bipush 96, 61), (61, .if_icmp .ge 30, 64), (64, .aload_n 0, 65), (65, .getfield 63, 68), (68, .iload_n 1, 69), (69, .iconst 0, 70), (70, .bastore, 71), (71, .aload_n 0, 72), (72, .getfield 72, 75), (75, .iload_n 1, 76), (76, .iconst 0, 77), (77, .iastore, 78), (78, .aload_n 0, 79), (79, .getfield 81, 82), (82, .iload_n 1, 83), (83, .iconst 0, 84), (84, .iastore, 85), (85, .iinc 1 1, 88), (88, .goto (-30), 91), (91, .iconst 0, 92), (92, .istore_n 1, 93), (93, .iload_n 1, 94), (94, .bipush 18, 96), (96, .if_icmp .ge 16, 99), (99, .aload_n 0, 100), (100, .getfield 90, 103), (103, .iload_n 1, 104), (104, .iconst 0, 105), (105, .iastore, 106), (106, .iinc 1 1, 109), (109, .goto (-16), 112), (112, .iconst 0, 113), (113, .istore_n 1, 114), (114, .iload_n 1, 115), (115, .bipush 6, 117), (117, .if_icmp .ge 37, 120), (120, .aload_n 0, 121), (121, .getfield 44, 124), (124, .iload_n 1, 125), (125, .iconst 0, 126), (126, .iastore, 127), (127, .aload_n 0, 128), (128, .getfield 47, 131), (131, .iload_n 1, 132), (132, .iconst 0, 133), (133, .iastore, 134), (134, .aload_n 0, 135), (135, .getfield 50, 138), (138, .iload_n 1, 139), (139, .iconst 0, 140), (140, .iastore, 141), (141, .aload_n 0, 142), (142, .getfield 53, 145), (145, .iload_n 1, 146), (146, .iconst 0, 147), (147, .iastore, 148), (148, .iinc 1 1, 151), (151, .goto (-37), 154), (154, .aload_n 0, 155), (155, .invokevirtual 265, 158), (158, .return_, 159)]
theorem dec_80_0 : ((il_80.drop 0).take 50).all (fun q => decide (decode prog_14_method_15_code q.1 = .ok (q.2.1, q.2.2 - q.1))) = true := by decide +kernel
theorem dec_80_50 : ((il_80.drop 50).take 50).all (fun q => decide (decode prog_14_method_15_code q.1 = .ok (q.2.1, q.2.2 - q.1))) = true := by decide +kernel
-- 81: PipelineSimulatorModel.readPipeline()I
def il_81 : List (Nat × Instr × Nat) := [(0, .aload_n 0, 1), (1, .iconst 0, 2), (2, .putfield 212, 5), (5, .aload_n 0, 6), (6, .iconst 0, 7), (7, .putfield 215, 10), (10, .iconst 0, 11), (11, .istore_n 1, 12), (12, .aload_n 0, 13), (13, .getfield 208, 16), (16, .ifCond .le 16, 19), (19, .aload_n 0, 20), (20, .invokevirtual 219, 23), (23, .bipush 36, 25), (25, .if_icmp .eq 7, 28), (28, .iconst 1, 29), (29, .goto 4, 32), (32, .iconst 0, 33), (33, .istore_n 2, 34), (34, .iload_n 2, 35), (35, .ifCond .eq 59, 38), (38, .iinc 1 1, 41), (41, .aload_n 0, 42), (42, .iload_n 1, 43), (43, .invokevirtual 237, 46), (46, .aload_n 0, 47), (47, .getfield 215, 50), (50, .ifCond .ne 21, 53), (53, .aload_n 0, 54), (54, .invokevirtual 219, 57), (57, .bipush 124, 59), (59, .if_icmp .ne 12, 62), (62, .iload_n 1, 63), (63, .iconst 4, 64), (64, .if_icmp .ge 7, 67), (67, .iconst 1, 68), (68, .goto 4, 71), (71, .iconst 0, 72), (72, .istore_n 2, 73), (73, .aload_n 0, 74), (74, .dup, 75), (75, .getfield 212, 78), (78, .iload_n 2, 79), (79, .ifCond .eq 7, 82), (82, .iconst 1, 83), (83, .goto 4, 86), (86, .iconst 0, 87), (87, .iadd, 88), (88, .putfield 212, 91), (91, .goto (-57), 94), (94, .aload_n 0, 95), (95, .getfield 160, 98), (98, .iload_n 1, 99), (99, .iconst 1, 100), (100, .iadd, 101), (101, .bipush 6, 103), (103, .if_icmp .ge 9, 106), (106, .iload_n 1, 107), (107, .iconst 1, 108), (108, .iadd, 109), (109, .goto 4, 112), (112, .iconst 0, 113), (113, .iconst 1, 114), (114, .iastore, 115), (115, .aload_n 0, 116), (116, .getfield 215, 119), (119, .ifCond .ne 34, 122), (122, .aload_n 0, 123), (123, .invokevirtual 219, 126), (126, .bipush 36, 128), (128, .if_icmp .ne 25, 131), (131, .aload_n 0, 132), (132, .dup, 133), (133, .getfield 212, 136), (136, .iconst 1, 137), (137, .iadd, 138), (138, .putfield 212, 141), (141, .aload_n 0, 142), (142, .getfield 160, 145), (145, .iload_n 1, 146), (146, .iconst 1, 147), (147, .iadd, 148), (148, .aload_n 0, 149), (149, .invokevirtual 234, 152), (152, .iastore, 153), (153, .aload_n 0, 154), (154, .dup, 155), (155, .getfield 215, 158), (158, .aload_n 0, 159), (159, .getfield 212, 162), (162, .aload_n 0, 163), (163, .getfield 208, 166), (166, .if_icmp .ge 7, 169), (169, .iconst 1, 170), (170, .goto 4, 173), (173, .iconst 0, 174), (174, .ior, 175), (175, .putfield 215, 178), (178, .aload_n 0, 179), (179, .iconst 0, 180), (180, .putfield 208, 183), (183, .aload_n 0, 184), (184, .getfield 215, 187), (187, .ifCond .eq 12, 190), (190, .sipush (-2000), 193), (193, .aload_n 0, 194), (194, .getfield 212, 197), (197, .isub, 198), (198, .ireturn, 199), (199, .aload_n 0, 200), (200, .iload_n 1, 201), (201, .putfield 196, 204), (204, .iconst 1, 205), (205, .istore_n 3, 206), (206, .iload_n 3, 207), (207, .iload_n 1, 208), (208, .if_icmp .gt 57, 211), (211, .aload_n 0, 212), (212, .getfield 13, 215), (215, .iload_n 3, 216), (216, .aload_n 0, 217), (217, .getfield 151, 220), (220, .iload_n 3, 221), (221, .iaload, 222), (222, .iastore, 223), (223, .aload_n 0, 224), (224, .getfield 16, 227), (227, .iload_n 3, 228), (228, .aload_n 0, 229), (229, .getfield 154, 232), (232, .iload_n 3, 233), (233, .iaload, 234), (234, .iastore, 235), (235, .aload_n 0, 236), (236, .getfield 19, 239), (239, .iload_n 3, 240), (240, .aload_n 0, 241), (241, .getfield 157, 244), (244, .iload_n 3, 245), (245, .iaload, 246), (246, .iastore, 247), (247, .aload_n 0, 248), (248, .getfield 22, 251), (251, .iload_n 3, 252), (252, .aload_n 0, 253), (253, .getfield 160, 256), (256, .iload_n 3, 257), (257, .iaload, 258), (258, .iastore, 259), (259, .iinc 3 1, 262), (262, .goto (-56), 265), (265, .aload_n 0, 266), (266, .getfield 13, 269), (269, .iload_n 1, 270), (270, .iconst 1, 271), (271, .iadd, 272), (272, .bipush 8, 274), (274, .iastore, 275), (275, .aload_n 0, 276), (276, .getfield 16, 279), (279, .iload_n 1, 280), (280, .iconst 1, 281), (281, .iadd, 282), (282, .iconst 0, 283), (283, .iastore, 284), (284, .aload_n 0, 285), (285, .getfield 19, 288), (288, .iload_n 1, 289), (289, .iconst 1, 290), (290, .iadd, 291), (291, .iconst 0, 292), (292, .iastore, 293), (293, .aload_n 0, 294), (294, .getfield 22, 297), (297, .iload_n 1, 298), (298, .iconst 1, 299), (299, .iadd, 300), (300, .aload_n 0, 301), (301, .getfield 160, 304), (304, .iload_n 1, 305), (305, .iconst 1, 306), (306, .iadd, 307), (307, .iaload, 308), (308, .iastore, 309), (309, .aload_n 0, 310), (310, .invokevirtual 240, 313), (313, .iload_n 1, 314), (314, .ireturn, 315)]
theorem dec_81_0 : ((il_81.drop 0).take 50).all (fun q => decide (decode prog_14_method_14_code q.1 = .ok (q.2.1, q.2.2 - q.1))) = true := by decide +kernel
theorem dec_81_50 : ((il_81.drop 50).take 50).all (fun q => decide (decode prog_14_method_14_code q.1 = .ok (q.2.1, q.2.2 - q.1))) = true := by decide +kernel
theorem dec_81_100 : ((il_81.drop 100).take 50).all (fun q => decide (decode prog_14_method_14_code q.1 = .ok (q.2.1, q.2.2 - q.1))) = true := by decide +kernel
theorem dec_81_150 : ((il_81.drop 150).take 50).all (fun q => decide (decode prog_14_method_14_code q.1 = .ok (q.2.1, q.2.2 - q.1))) = true := by decide +kernel
-- 82: PipelineSimulator$Settings.digits()I
def il_82 : List (Nat × Instr × Nat) := [(0, .aload_n 0, 1), (1, .getfield 7, 4), (4, .sipush 1000, 7), (7, .imul, 8), (8, .aload_n 0, 9), (9, .getfield 13, 12), (12, .bipush 100, 14), (14, .imul, 15), (15, .iadd, 16), (16, .aload_n 0, 17), (17, .getfield 16, 20), (20, .bipush 10, 22), (22, .imul, 23), (23, .iadd, 24), (24, .aload_n 0, 25), (25, .getfield 19, 28), (28, .iadd, 29), (29, .ireturn, 30)]
theorem dec_82_0 : ((il_82.drop 0).take 50).all (fun q => decide (decode prog_11_method_3_code q.1 = .ok (q.2.1, q.2.2 - q.1))) = true := by decide +kernel
-- 83: PipelineSimulator$Settings.change(IIII)V
def il_83 : List (Nat × Instr × Nat) := [(0, .aload_n 0, 1), (1, .iload_n 1, 2), (2, .putfield 7, 5), (5, .aload_n 0, 6), (6, .iload_n 2, 7), (7, .putfield 13, 10), (10, .aload_n 0, 11), (11, .iload_n 3, 12), (12, .putfield 16, 15), (15, .aload_n 0, 16), (16, .iload 4, 18), (18, .putfield 19, 21), (21, .return_, 22)]
theorem dec_83_0 : ((il_83.drop 0).take 50).all (fun q => decide (decode prog_11_method_2_code q.1 = .ok (q.2.1, q.2.2 - q.1))) = true := by decide +kernel
-- 84: PipelineSimulator.configure(IIII)I
def il_84 : List (Nat × Instr × Nat) := [(0, .iload_n 1, 1), (1, .iconst 1, 2), (2, .if_icmp .lt 19, 5), (5, .iload_n 1, 6), (6, .iconst 4, 7), (7, .if_icmp .gt 14, 10), (10, .iload_n 2, 11), (11, .iconst 1, 12), (12, .if_icmp .lt 9, 15), (15, .iload_n 2, 16), (16, .bipush 9, 18), (18, .if_icmp .le 6, 21), (21, .ldc 51, 23), (23, .ireturn, 24), (24, .iload_n 3, 25), (25, .iconst 2, 26), (26, .if_icmp .lt 20, 29), (29, .iload_n 3, 30), (30, .iconst 4, 31), (31, .if_icmp .gt 15, 34), (34, .iload 4, 36), (36, .iconst 1, 37), (37, .if_icmp .lt 9, 40), (40, .iload 4, 42), (42, .iconst 5, 43), (43, .if_icmp .le 6, 46), (46, .ldc 51, 48), (48, .ireturn, 49), (49, .aload_n 0, 50), (50, .getfield 31, 53), (53, .getfield 83, 56), (56, .ifCond .eq 6, 59), (59, .ldc 87, 61), (61, .ireturn, 62), (62, .aload_n 0, 63), (63, .getfield 31, 66), (66, .getfield 88, 69), (69, .invokevirtual 92, 72), (72, .istore 5, 74), (74, .aload_n 0, 75), (75, .getfield 31, 78), (78, .getfield 88, 81), (81, .iload_n 1, 82), (82, .iload_n 2, 83), (83, .iload_n 3, 84), (84, .iload 4, 86), (86, .invokevirtual 97, 89), (89, .iload 5, 91), (91, .ireturn, 92)]
theorem dec_84_0 : ((il_84.drop 0).take 50).all (fun q => decide (decode prog_1_method_4_code q.1 = .ok (q.2.1, q.2.2 - q.1))) = true := by decide +kernel
-- 85: PipelineSimulatorModel.configure(IIII)I
def il_85 : List (Nat × Instr × Nat) := [(0, .iload_n 1, 1), (1, .iconst 1, 2), (2, .iconst 4, 3), (3, .invokestatic 203, 6), (6, .ifCond .eq 32, 9), (9, .iload_n 2, 10), (10, .iconst 1, 11), (11, .bipush 9, 13), (13, .invokestatic 203, 16), (16, .ifCond .eq 22, 19), (19, .iload_n 3, 20), (20, .iconst 2, 21), (21, .iconst 4, 22), (22, .invokestatic 203, 25), (25, .ifCond .eq 13, 28), (28, .iload 4, 30), (30, .iconst 1, 31), (31, .iconst 5, 32), (32, .invokestatic 203, 35), (35, .ifCond .ne 6, 38), (38, .ldc 207, 40), (40, .ireturn, 41), (41, .aload_n 0, 42), (42, .getfield 259, 45), (45, .ifCond .eq 7, 48), (48, .ldc_w 274, 51), (51, .ireturn, 52), (52, .sipush 1000, 55), (55, .aload_n 0, 56), (56, .getfield 25, 59), (59, .imul, 60), (60, .bipush 100, 62), (62, .aload_n 0, 63), (63, .getfield 29, 66), (66, .imul, 67), (67, .iadd, 68), (68, .bipush 10, 70), (70, .aload_n 0, 71), (71, .getfield 32, 74), (74, .imul, 75), (75, .iadd, 76), (76, .aload_n 0, 77), (77, .getfield 35, 80), (80, .iadd, 81), (81, .istore 5, 83), (83, .aload_n 0, 84), (84, .iload_n 1, 85), (85, .putfield 25, 88), (88, .aload_n 0, 89), (89, .iload_n 2, 90), (90, .putfield 29, 93), (93, .aload_n 0, 94), (94, .iload_n 3, 95), (95, .putfield 32, 98), (98, .aload_n 0, 99), (99, .iload 4, 101), (101, .putfield 35, 104), (104, .iload 5, 106), (106, .ireturn, 107)]
theorem dec_85_0 : ((il_85.drop 0).take 50).all (fun q => decide (decode prog_14_method_17_code q.1 = .ok (q.2.1, q.2.2 - q.1))) = true := by decide +kernel
theorem dec_85_50 : ((il_85.drop 50).take 50).all (fun q => decide (decode prog_14_method_17_code q.1 = .ok (q.2.1, q.2.2 - q.1))) = true := by decide +kernel
-- 86: PipelineSimulator$Records.add(III)V
def il_86 : List (Nat × Instr × Nat) := [(0, .aload_n 0, 1), (1, .getfield 23, 4), (4, .aload_n 0, 5), (5, .getfield 19, 8), (8, .if_icmp .le 4, 11), (11, .return_, 12), (12, .aload_n 0, 13), (13, .getfield 26, 16), (16, .aload_n 0, 17), (17, .getfield 23, 20), (20, .iadd, 21), (21, .aload_n 0, 22), (22, .getfield 19, 25), (25, .iand, 26), (26, .istore 4, 28), (28, .aload_n 0, 29), (29, .getfield 7, 32), (32, .iload 4, 34), (34, .iload_n 1, 35), (35, .iastore, 36), (36, .aload_n 0, 37), (37, .getfield 13, 40), (40, .iload 4, 42), (42, .iload_n 2, 43), (43, .iastore, 44), (44, .aload_n 0, 45), (45, .getfield 16, 48), (48, .iload 4, 50), (50, .iload_n 3, 51), (51, .iastore, 52), (52, .aload_n 0, 53), (53, .dup, 54), (54, .getfield 23, 57), (57, .iconst 1, 58), (58, .iadd, 59), (59, .putfield 23, 62), (62, .return_, 63)]
theorem dec_86_0 : ((il_86.drop 0).take 50).all (fun q => decide (decode prog_10_method_2_code q.1 = .ok (q.2.1, q.2.2 - q.1))) = true := by decide +kernel
-- 87: PipelineSimulator.push(II)I
def il_87 : List (Nat × Instr × Nat) := [(0, .iload_n 1, 1), (1, .ifCond .lt 21, 4), (4, .iload_n 1, 5), (5, .bipush 16, 7), (7, .if_icmp .ge 15, 10), (10, .iload_n 2, 11), (11, .bipush (-99), 13), (13, .if_icmp .lt 9, 16), (16, .iload_n 2, 17), (17, .bipush 99, 19), (19, .if_icmp .le 6, 22), (22, .ldc 51, 24), (24, .ireturn, 25), (25, .aload_n 0, 26), (26, .getfield 31, 29), (29, .getfield 101, 32), (32, .getfield 105, 35), (35, .bipush 60, 37), (37, .if_icmp .lt 6, 40), (40, .ldc 56, 42), (42, .ireturn, 43), (43, .aload_n 0, 44), (44, .getfield 31, 47), (47, .getfield 101, 50), (50, .iload_n 1, 51), (51, .iload_n 2, 52), (52, .iconst 0, 53), (53, .invokevirtual 110, 56), (56, .aload_n 0, 57), (57, .getfield 31, 60), (60, .getfield 101, 63), (63, .getfield 105, 66), (66, .ireturn, 67)]
theorem dec_87_0 : ((il_87.drop 0).take 50).all (fun q => decide (decode prog_1_method_5_code q.1 = .ok (q.2.1, q.2.2 - q.1))) = true := by decide +kernel
-- 88: PipelineSimulatorModel.push(II)I
def il_88 : List (Nat × Instr × Nat) := [(0, .iload_n 1, 1), (1, .iconst 0, 2), (2, .bipush 15, 4), (4, .invokestatic 203, 7), (7, .ifCond .eq 14, 10), (10, .iload_n 2, 11), (11, .bipush (-99), 13), (13, .bipush 99, 15), (15, .invokestatic 203, 18), (18, .ifCond .ne 6, 21), (21, .ldc 207, 23), (23, .ireturn, 24), (24, .aload_n 0, 25), (25, .getfield 275, 28), (28, .bipush 60, 30), (30, .if_icmp .ne 6, 33), (33, .ldc 211, 35), (35, .ireturn, 36), (36, .aload_n 0, 37), (37, .getfield 38, 40), (40, .aload_n 0, 41), (41, .getfield 275, 44), (44, .iload_n 1, 45), (45, .iastore, 46), (46, .aload_n 0, 47), (47, .getfield 41, 50), (50, .aload_n 0, 51), (51, .getfield 275, 54), (54, .iload_n 2, 55), (55, .iastore, 56), (56, .aload_n 0, 57), (57, .dup, 58), (58, .getfield 275, 61), (61, .iconst 1, 62), (62, .iadd, 63), (63, .putfield 275, 66), (66, .aload_n 0, 67), (67, .getfield 275, 70), (70, .ireturn, 71)]
theorem dec_88_0 : ((il_88.drop 0).take 50).all (fun q => decide (decode prog_14_method_18_code q.1 = .ok (q.2.1, q.2.2 - q.1))) = true := by decide +kernel
-- 89: PipelineSimulator$Channel.isEmpty()Z
def il_89 : List (Nat × Instr × Nat) := [(0, .aload_n 0, 1), (1, .getfield 26, 4), (4, .ifCond .ne 14, 7), (7, .aload_n 0, 8), (8, .getfield 35, 11), (11, .ifCond .ne 7, 14), (14, .iconst 1, 15), (15, .goto 4, 18), (18, .iconst 0, 19), (19, .ireturn, 20)]
theorem dec_89_0 : ((il_89.drop 0).take 50).all (fun q => decide (decode prog_2_method_9_code q.1 = .ok (q.2.1, q.2.2 - q.1))) = true := by decide +kernel
-- 90: PipelineSimulator$Simulation.sizeOf(I)I
def il_90 : List (Nat × Instr × Nat) := [(0, .aload_n 0, 1), (1, .iload_n 1, 2), (2, .invokevirtual 54, 5), (5, .astore_n 2, 6), (6, .aload_n 2, 7), (7, .ifnonnull 7, 10), (10, .iconst 0, 11), (11, .goto 7, 14), (14, .aload_n 2, 15), (15, .getfield 58, 18), (18, .ireturn, 19)]
theorem dec_90_0 : ((il_90.drop 0).take 50).all (fun q => decide (decode prog_12_method_3_code q.1 = .ok (q.2.1, q.2.2 - q.1))) = true := by decide +kernel
-- 91: PipelineSimulator$Simulation.instanceAt(II)LPipelineSimulator$Instance;
def il_91 : List (Nat × Instr × Nat) := [(0, .aload_n 0, 1), (1, .iload_n 1, 2), (2, .invokevirtual 54, 5), (5, .astore_n 3, 6), (6, .aload_n 3, 7), (7, .ifnull 24, 10), (10, .iload_n 2, 11), (11, .ifCond .lt 20, 14), (14, .iload_n 2, 15), (15, .aload_n 3, 16), (16, .getfield 58, 19), (19, .if_icmp .ge 12, 22), (22, .iload_n 2, 23), (23, .aload_n 3, 24), (24, .getfield 61, 27), (27, .arraylength, 28), (28, .if_icmp .lt 5, 31), (31, .aconst_null, 32), (32, .areturn, 33), (33, .aload_n 3, 34), (34, .getfield 61, 37), (37, .iload_n 2, 38), (38, .aaload, 39), (39, .areturn, 40)]
theorem dec_91_0 : ((il_91.drop 0).take 50).all (fun q => decide (decode prog_12_method_4_code q.1 = .ok (q.2.1, q.2.2 - q.1))) = true := by decide +kernel
-- 92: PipelineSimulator$Simulation.recordsInLists()I
def il_92 : List (Nat × Instr × Nat) := [(0, .iconst 0, 1), (1, .istore_n 1, 2), (2, .iconst 0, 3), (3, .istore_n 2, 4), (4, .iload_n 2, 5), (5, .aload_n 0, 6), (6, .getfield 50, 9), (9, .iconst 1, 10), (10, .iadd, 11), (11, .if_icmp .gt 54, 14), (14, .iconst 0, 15), (15, .istore_n 3, 16), (16, .iload_n 3, 17), (17, .aload_n 0, 18), (18, .iload_n 2, 19), (19, .invokevirtual 129, 22), (22, .if_icmp .ge 37, 25), (25, .aload_n 0, 26), (26, .iload_n 2, 27), (27, .iload_n 3, 28), (28, .invokevirtual 141, 31), (31, .astore 4, 33), (33, .iload_n 1, 34), (34, .aload 4, 36), (36, .ifnonnull 7, 39), (39, .iconst 0, 40), (40, .goto 11, 43), (43, .aload 4, 45), (45, .getfield 168, 48), (48, .getfield 156, 51), (51, .iadd, 52), (52, .istore_n 1, 53), (53, .iinc 3 1, 56), (56, .goto (-40), 59), (59, .iinc 2 1, 62), (62, .goto (-58), 65), (65, .iload_n 1, 66), (66, .ireturn, 67)]
theorem dec_92_0 : ((il_92.drop 0).take 50).all (fun q => decide (decode prog_12_method_13_code q.1 = .ok (q.2.1, q.2.2 - q.1))) = true := by decide +kernel
-- 93: PipelineSimulator$Simulation.quiet()Z
def il_93 : List (Nat × Instr × Nat) := [(0, .aload_n 0, 1), (1, .getfield 135, 4), (4, .aload_n 0, 5), (5, .getfield 23, 8), (8, .getfield 156, 11), (11, .if_icmp .ne 10, 14), (14, .aload_n 0, 15), (15, .getfield 126, 18), (18, .ifCond .eq 5, 21), (21, .iconst 0, 22), (22, .ireturn, 23), (23, .aload_n 0, 24), (24, .getfield 35, 27), (27, .astore_n 1, 28), (28, .aload_n 1, 29), (29, .arraylength, 30), (30, .istore_n 2, 31), (31, .iconst 0, 32), (32, .istore_n 3, 33), (33, .iload_n 3, 34), (34, .iload_n 2, 35), (35, .if_icmp .ge 29, 38), (38, .aload_n 1, 39), (39, .iload_n 3, 40), (40, .aaload, 41), (41, .astore 4, 43), (43, .aload 4, 45), (45, .ifnull 13, 48), (48, .aload 4, 50), (50, .invokevirtual 157, 53), (53, .ifCond .ne 5, 56), (56, .iconst 0, 57), (57, .ireturn, 58), (58, .iinc 3 1, 61), (61, .goto (-28), 64), (64, .aload_n 0, 65), (65, .invokevirtual 161, 68), (68, .ifCond .ne 7, 71), (71, .iconst 1, 72), (72, .goto 4, 75), (75, .iconst 0, 76), (76, .ireturn, 77)]
theorem dec_93_0 : ((il_93.drop 0).take 50).all (fun q => decide (decode prog_12_method_11_code q.1 = .ok (q.2.1, q.2.2 - q.1))) = true := by decide +kernel
-- 94: PipelineSimulator$Channel.hasRoom()Z
def il_94 : List (Nat × Instr × Nat) := [(0, .aload_n 0, 1), (1, .getfield 26, 4), (4, .aload_n 0, 5), (5, .getfield 22, 8), (8, .getfield 30, 11), (11, .if_icmp .ge 7, 14), (14, .iconst 1, 15), (15, .goto 4, 18), (18, .iconst 0, 19), (19, .ireturn, 20)]
theorem dec_94_0 : ((il_94.drop 0).take 50).all (fun q => decide (decode prog_2_method_2_code q.1 = .ok (q.2.1, q.2.2 - q.1))) = true := by decide +kernel
-- 95: PipelineSimulator$Channel.enqueue(I)V
def il_95 : List (Nat × Instr × Nat) := [(0, .aload_n 0, 1), (1, .getfield 18, 4), (4, .aload_n 0, 5), (5, .getfield 59, 8), (8, .aload_n 0, 9), (9, .getfield 26, 12), (12, .iadd, 13), (13, .iconst 3, 14), (14, .iand, 15), (15, .iload_n 1, 16), (16, .iastore, 17), (17, .aload_n 0, 18), (18, .dup, 19), (19, .getfield 26, 22), (22, .iconst 1, 23), (23, .iadd, 24), (24, .putfield 26, 27), (27, .return_, 28)]
theorem dec_95_0 : ((il_95.drop 0).take 50).all (fun q => decide (decode prog_2_method_14_code q.1 = .ok (q.2.1, q.2.2 - q.1))) = true := by decide +kernel
-- 96: PipelineSimulator$Channel.closeOpen()V
def il_96 : List (Nat × Instr × Nat) := [(0, .aload_n 0, 1), (1, .aload_n 0, 2), (2, .getfield 35, 5), (5, .invokevirtual 52, 8), (8, .aload_n 0, 9), (9, .iconst 0, 10), (10, .putfield 35, 13), (13, .aload_n 0, 14), (14, .iconst 0, 15), (15, .putfield 55, 18), (18, .return_, 19)]
theorem dec_96_0 : ((il_96.drop 0).take 50).all (fun q => decide (decode prog_2_method_13_code q.1 = .ok (q.2.1, q.2.2 - q.1))) = true := by decide +kernel
-- 97: PipelineSimulator$Channel.growOlder()V
def il_97 : List (Nat × Instr × Nat) := [(0, .aload_n 0, 1), (1, .getfield 35, 4), (4, .ifCond .ne 4, 7), (7, .return_, 8), (8, .aload_n 0, 9), (9, .dup, 10), (10, .getfield 55, 13), (13, .iconst 1, 14), (14, .iadd, 15), (15, .putfield 55, 18), (18, .aload_n 0, 19), (19, .getfield 55, 22), (22, .aload_n 0, 23), (23, .getfield 22, 26), (26, .getfield 58, 29), (29, .if_icmp .lt 14, 32), (32, .aload_n 0, 33), (33, .invokevirtual 41, 36), (36, .ifCond .eq 7, 39), (39, .aload_n 0, 40), (40, .invokevirtual 45, 43), (43, .return_, 44)]
theorem dec_97_0 : ((il_97.drop 0).take 50).all (fun q => decide (decode prog_2_method_7_code q.1 = .ok (q.2.1, q.2.2 - q.1))) = true := by decide +kernel
-- 98: PipelineSimulator$Operator.isKeyed()Z
def il_98 : List (Nat × Instr × Nat) := [(0, .aload_n 0, 1), (1, .getfield 47, 4), (4, .iconst 4, 5), (5, .if_icmp .eq 29, 8), (8, .aload_n 0, 9), (9, .getfield 47, 12), (12, .iconst 5, 13), (13, .if_icmp .eq 21, 16), (16, .aload_n 0, 17), (17, .getfield 47, 20), (20, .bipush 6, 22), (22, .if_icmp .eq 12, 25), (25, .aload_n 0, 26), (26, .getfield 47, 29), (29, .bipush 8, 31), (31, .if_icmp .ne 7, 34), (34, .iconst 1, 35), (35, .goto 4, 38), (38, .iconst 0, 39), (39, .ireturn, 40)]
theorem dec_98_0 : ((il_98.drop 0).take 50).all (fun q => decide (decode prog_7_method_3_code q.1 = .ok (q.2.1, q.2.2 - q.1))) = true := by decide +kernel
-- 99: PipelineSimulator$Records.keyAt(I)I
def il_99 : List (Nat × Instr × Nat) := [(0, .aload_n 0, 1), (1, .getfield 7, 4), (4, .aload_n 0, 5), (5, .getfield 26, 8), (8, .iload_n 1, 9), (9, .iadd, 10), (10, .aload_n 0, 11), (11, .getfield 19, 14), (14, .iand, 15), (15, .iaload, 16), (16, .ireturn, 17)]
theorem dec_99_0 : ((il_99.drop 0).take 50).all (fun q => decide (decode prog_10_method_3_code q.1 = .ok (q.2.1, q.2.2 - q.1))) = true := by decide +kernel
-- 100: PipelineSimulator$Operator.ownerOf(II)I
def il_100 : List (Nat × Instr × Nat) := [(0, .iload_n 1, 1), (1, .bipush 7, 3), (3, .iand, 4), (4, .iload_n 2, 5), (5, .imul, 6), (6, .bipush 8, 8), (8, .idiv, 9), (9, .ireturn, 10)]
theorem dec_100_0 : ((il_100.drop 0).take 50).all (fun q => decide (decode prog_7_method_4_code q.1 = .ok (q.2.1, q.2.2 - q.1))) = true := by decide +kernel
-- 101: java/lang/Math.floorMod(II)I
def il_101 : List (Nat × Instr × Nat) := [(0, .iload_n 0, 1), (1, .iload_n 1, 2), (2, .irem, 3), (3, .istore_n 2, 4), (4, .iload_n 0, 5), (5, .iload_n 1, 6), (6, .ixor, 7), (7, .ifCond .ge 11, 10), (10, .iload_n 2, 11), (11, .ifCond .eq 7, 14), (14, .iload_n 2, 15), (15, .iload_n 1, 16), (16, .iadd, 17), (17, .ireturn, 18), (18, .iload_n 2, 19), (19, .ireturn, 20)]
theorem dec_101_0 : ((il_101.drop 0).take 50).all (fun q => decide (decode prog_19_method_50_code q.1 = .ok (q.2.1, q.2.2 - q.1))) = true := by decide +kernel
-- 102: PipelineSimulator$Simulation.targetOf(ILPipelineSimulator$Instance;)I
def il_102 : List (Nat × Instr × Nat) := [(0, .aload_n 0, 1), (1, .iload_n 1, 2), (2, .iconst 1, 3), (3, .iadd, 4), (4, .invokevirtual 54, 7), (7, .astore_n 3, 8), (8, .aload_n 3, 9), (9, .ifnull 20, 12), (12, .aload_n 3, 13), (13, .getfield 58, 16), (16, .ifCond .le 13, 19), (19, .aload_n 2, 20), (20, .getfield 168, 23), (23, .getfield 156, 26), (26, .ifCond .ne 5, 29), (29, .iconst (-1), 30), (30, .ireturn, 31), (31, .aload_n 3, 32), (32, .invokevirtual 190, 35), (35, .ifCond .eq 20, 38), (38, .aload_n 3, 39), (39, .aload_n 2, 40), (40, .getfield 168, 43), (43, .iconst 0, 44), (44, .invokevirtual 193, 47), (47, .aload_n 3, 48), (48, .getfield 58, 51), (51, .invokevirtual 196, 54), (54, .ireturn, 55), (55, .aload_n 2, 56), (56, .getfield 145, 59), (59, .aload_n 3, 60), (60, .getfield 58, 63), (63, .invokestatic 200, 66), (66, .ireturn, 67)]
theorem dec_102_0 : ((il_102.drop 0).take 50).all (fun q => decide (decode prog_12_method_16_code q.1 = .ok (q.2.1, q.2.2 - q.1))) = true := by decide +kernel
-- 103: PipelineSimulator$Simulation.channelAt(III)LPipelineSimulator$Channel;
def il_103 : List (Nat × Instr × Nat) := [(0, .aload_n 0, 1), (1, .iload_n 1, 2), (2, .invokevirtual 54, 5), (5, .astore 4, 7), (7, .aload_n 0, 8), (8, .iload_n 1, 9), (9, .iconst 1, 10), (10, .iadd, 11), (11, .invokevirtual 54, 14), (14, .astore 5, 16), (16, .aload 4, 18), (18, .ifnull 8, 21), (21, .aload 5, 23), (23, .ifnonnull 5, 26), (26, .aconst_null, 27), (27, .areturn, 28), (28, .iload_n 2, 29), (29, .ifCond .lt 25, 32), (32, .iload_n 2, 33), (33, .aload 4, 35), (35, .getfield 58, 38), (38, .if_icmp .ge 16, 41), (41, .iload_n 3, 42), (42, .ifCond .lt 12, 45), (45, .iload_n 3, 46), (46, .aload 5, 48), (48, .getfield 58, 51), (51, .if_icmp .lt 5, 54), (54, .aconst_null, 55), (55, .areturn, 56), (56, .iload_n 1, 57), (57, .iconst 3, 58), (58, .imul, 59), (59, .iload_n 2, 60), (60, .iadd, 61), (61, .iconst 3, 62), (62, .imul, 63), (63, .iload_n 3, 64), (64, .iadd, 65), (65, .istore 6, 67), (67, .iload 6, 69), (69, .ifCond .lt 13, 72), (72, .iload 6, 74), (74, .aload_n 0, 75), (75, .getfield 35, 78), (78, .arraylength, 79), (79, .if_icmp .lt 7, 82), (82, .aconst_null, 83), (83, .goto 10, 86), (86, .aload_n 0, 87), (87, .getfield 35, 90), (90, .iload 6, 92), (92, .aaload, 93), (93, .areturn, 94)]
theorem dec_103_0 : ((il_103.drop 0).take 50).all (fun q => decide (decode prog_12_method_5_code q.1 = .ok (q.2.1, q.2.2 - q.1))) = true := by decide +kernel
theorem dec_103_50 : ((il_103.drop 50).take 50).all (fun q => decide (decode prog_12_method_5_code q.1 = .ok (q.2.1, q.2.2 - q.1))) = true := by decide +kernel
-- 104: PipelineSimulator$Channel.takesRecord()Z
def il_104 : List (Nat × Instr × Nat) := [(0, .aload_n 0, 1), (1, .getfield 35, 4), (4, .aload_n 0, 5), (5, .getfield 22, 8), (8, .getfield 38, 11), (11, .if_icmp .lt 10, 14), (14, .aload_n 0, 15), (15, .invokevirtual 41, 18), (18, .ifCond .eq 7, 21), (21, .iconst 1, 22), (22, .goto 4, 25), (25, .iconst 0, 26), (26, .ireturn, 27)]
theorem dec_104_0 : ((il_104.drop 0).take 50).all (fun q => decide (decode prog_2_method_3_code q.1 = .ok (q.2.1, q.2.2 - q.1))) = true := by decide +kernel
-- 105: PipelineSimulator$Records.valueAt(I)I
def il_105 : List (Nat × Instr × Nat) := [(0, .aload_n 0, 1), (1, .getfield 13, 4), (4, .aload_n 0, 5), (5, .getfield 26, 8), (8, .iload_n 1, 9), (9, .iadd, 10), (10, .aload_n 0, 11), (11, .getfield 19, 14), (14, .iand, 15), (15, .iaload, 16), (16, .ireturn, 17)]
theorem dec_105_0 : ((il_105.drop 0).take 50).all (fun q => decide (decode prog_10_method_4_code q.1 = .ok (q.2.1, q.2.2 - q.1))) = true := by decide +kernel
-- 106: PipelineSimulator$Records.birthAt(I)I
def il_106 : List (Nat × Instr × Nat) := [(0, .aload_n 0, 1), (1, .getfield 16, 4), (4, .aload_n 0, 5), (5, .getfield 26, 8), (8, .iload_n 1, 9), (9, .iadd, 10), (10, .aload_n 0, 11), (11, .getfield 19, 14), (14, .iand, 15), (15, .iaload, 16), (16, .ireturn, 17)]
theorem dec_106_0 : ((il_106.drop 0).take 50).all (fun q => decide (decode prog_10_method_5_code q.1 = .ok (q.2.1, q.2.2 - q.1))) = true := by decide +kernel
-- 107: PipelineSimulator$Channel.putRecord(III)V
def il_107 : List (Nat × Instr × Nat) := [(0, .aload_n 0, 1), (1, .getfield 35, 4), (4, .aload_n 0, 5), (5, .getfield 22, 8), (8, .getfield 38, 11), (11, .if_icmp .lt 7, 14), (14, .aload_n 0, 15), (15, .invokevirtual 45, 18), (18, .aload_n 0, 19), (19, .getfield 12, 22), (22, .iload_n 1, 23), (23, .iload_n 2, 24), (24, .iload_n 3, 25), (25, .invokevirtual 48, 28), (28, .aload_n 0, 29), (29, .dup, 30), (30, .getfield 35, 33), (33, .iconst 1, 34), (34, .iadd, 35), (35, .putfield 35, 38), (38, .aload_n 0, 39), (39, .getfield 35, 42), (42, .aload_n 0, 43), (43, .getfield 22, 46), (46, .getfield 38, 49), (49, .if_icmp .lt 14, 52), (52, .aload_n 0, 53), (53, .invokevirtual 41, 56), (56, .ifCond .eq 7, 59), (59, .aload_n 0, 60), (60, .invokevirtual 45, 63), (63, .return_, 64)]
theorem dec_107_0 : ((il_107.drop 0).take 50).all (fun q => decide (decode prog_2_method_5_code q.1 = .ok (q.2.1, q.2.2 - q.1))) = true := by decide +kernel
-- 108: PipelineSimulator$Records.removeFirst()V
def il_108 : List (Nat × Instr × Nat) := [(0, .aload_n 0, 1), (1, .getfield 23, 4), (4, .ifCond .le 28, 7), (7, .aload_n 0, 8), (8, .aload_n 0, 9), (9, .getfield 26, 12), (12, .iconst 1, 13), (13, .iadd, 14), (14, .aload_n 0, 15), (15, .getfield 19, 18), (18, .iand, 19), (19, .putfield 26, 22), (22, .aload_n 0, 23), (23, .dup, 24), (24, .getfield 23, 27), (27, .iconst 1, 28), (28, .isub, 29), (29, .putfield 23, 32), (32, .return_, 33)]
theorem dec_108_0 : ((il_108.drop 0).take 50).all (fun q => decide (decode prog_10_method_6_code q.1 = .ok (q.2.1, q.2.2 - q.1))) = true := by decide +kernel
-- 109: PipelineSimulator$Simulation.sendList(IILPipelineSimulator$Instance;)Z
def il_109 : List (Nat × Instr × Nat) := [(0, .aload_n 3, 1), (1, .getfield 168, 4), (4, .astore 4, 6), (6, .aload 4, 8), (8, .getfield 156, 11), (11, .istore 5, 13), (13, .iconst 0, 14), (14, .istore 6, 16), (16, .iload 6, 18), (18, .iload 5, 20), (20, .if_icmp .ge 98, 23), (23, .aload_n 0, 24), (24, .iload_n 1, 25), (25, .iconst 1, 26), (26, .iadd, 27), (27, .invokevirtual 54, 30), (30, .astore 7, 32), (32, .aload_n 0, 33), (33, .iload_n 1, 34), (34, .iload_n 2, 35), (35, .aload_n 0, 36), (36, .iload_n 1, 37), (37, .aload_n 3, 38), (38, .invokevirtual 247, 41), (41, .invokevirtual 205, 44), (44, .astore 8, 46), (46, .aload 7, 48), (48, .ifnull 16, 51), (51, .aload 8, 53), (53, .ifnull 11, 56), (56, .aload 8, 58), (58, .invokevirtual 251, 61), (61, .ifCond .ne 5, 64), (64, .iconst 0, 65), (65, .ireturn, 66), (66, .aload 8, 68), (68, .aload 4, 70), (70, .iconst 0, 71), (71, .invokevirtual 193, 74), (74, .aload 4, 76), (76, .iconst 0, 77), (77, .invokevirtual 254, 80), (80, .aload 4, 82), (82, .iconst 0, 83), (83, .invokevirtual 257, 86), (86, .invokevirtual 260, 89), (89, .aload 4, 91), (91, .invokevirtual 264, 94), (94, .aload 7, 96), (96, .invokevirtual 190, 99), (99, .ifCond .ne 13, 102), (102, .aload_n 3, 103), (103, .dup, 104), (104, .getfield 145, 107), (107, .iconst 1, 108), (108, .iadd, 109), (109, .putfield 145, 112), (112, .iinc 6 1, 115), (115, .goto (-99), 118), (118, .iconst 1, 119), (119, .ireturn, 120)]
theorem dec_109_0 : ((il_109.drop 0).take 50).all (fun q => decide (decode prog_12_method_21_code q.1 = .ok (q.2.1, q.2.2 - q.1))) = true := by decide +kernel
theorem dec_109_50 : ((il_109.drop 50).take 50).all (fun q => decide (decode prog_12_method_21_code q.1 = .ok (q.2.1, q.2.2 - q.1))) = true := by decide +kernel
-- 110: PipelineSimulator$Channel.takesBarrier()Z
def il_110 : List (Nat × Instr × Nat) := [(0, .aload_n 0, 1), (1, .getfield 35, 4), (4, .ifCond .le 7, 7), (7, .iconst 2, 8), (8, .goto 4, 11), (11, .iconst 1, 12), (12, .istore_n 1, 13), (13, .aload_n 0, 14), (14, .getfield 26, 17), (17, .iload_n 1, 18), (18, .iadd, 19), (19, .aload_n 0, 20), (20, .getfield 22, 23), (23, .getfield 30, 26), (26, .if_icmp .gt 7, 29), (29, .iconst 1, 30), (30, .goto 4, 33), (33, .iconst 0, 34), (34, .ireturn, 35)]
theorem dec_110_0 : ((il_110.drop 0).take 50).all (fun q => decide (decode prog_2_method_4_code q.1 = .ok (q.2.1, q.2.2 - q.1))) = true := by decide +kernel
-- 111: PipelineSimulator$Simulation.targetWithoutRoom(II)I
def il_111 : List (Nat × Instr × Nat) := [(0, .iconst 0, 1), (1, .istore_n 3, 2), (2, .iload_n 3, 3), (3, .aload_n 0, 4), (4, .iload_n 1, 5), (5, .iconst 1, 6), (6, .iadd, 7), (7, .invokevirtual 129, 10), (10, .if_icmp .ge 33, 13), (13, .aload_n 0, 14), (14, .iload_n 1, 15), (15, .iload_n 2, 16), (16, .iload_n 3, 17), (17, .invokevirtual 205, 20), (20, .astore 4, 22), (22, .aload 4, 24), (24, .ifnull 13, 27), (27, .aload 4, 29), (29, .invokevirtual 209, 32), (32, .ifCond .ne 5, 35), (35, .iload_n 3, 36), (36, .ireturn, 37), (37, .iinc 3 1, 40), (40, .goto (-38), 43), (43, .iconst (-1), 44), (44, .ireturn, 45)]
theorem dec_111_0 : ((il_111.drop 0).take 50).all (fun q => decide (decode prog_12_method_17_code q.1 = .ok (q.2.1, q.2.2 - q.1))) = true := by decide +kernel
-- 112: PipelineSimulator$Channel.putBarrier()V
def il_112 : List (Nat × Instr × Nat) := [(0, .aload_n 0, 1), (1, .getfield 35, 4), (4, .ifCond .le 7, 7), (7, .aload_n 0, 8), (8, .invokevirtual 45, 11), (11, .aload_n 0, 12), (12, .iconst (-1), 13), (13, .invokevirtual 52, 16), (16, .return_, 17)]
theorem dec_112_0 : ((il_112.drop 0).take 50).all (fun q => decide (decode prog_2_method_6_code q.1 = .ok (q.2.1, q.2.2 - q.1))) = true := by decide +kernel
-- 113: PipelineSimulator$Simulation.sendBarrier(IILPipelineSimulator$Instance;)Z
def il_113 : List (Nat × Instr × Nat) := [(0, .aload_n 3, 1), (1, .getfield 153, 4), (4, .ifCond .ne 5, 7), (7, .iconst 1, 8), (8, .ireturn, 9), (9, .aload_n 0, 10), (10, .iload_n 1, 11), (11, .iload_n 2, 12), (12, .invokevirtual 267, 15), (15, .ifCond .lt 5, 18), (18, .iconst 0, 19), (19, .ireturn, 20), (20, .iconst 0, 21), (21, .istore 4, 23), (23, .iload 4, 25), (25, .aload_n 0, 26), (26, .iload_n 1, 27), (27, .iconst 1, 28), (28, .iadd, 29), (29, .invokevirtual 129, 32), (32, .if_icmp .ge 29, 35), (35, .aload_n 0, 36), (36, .iload_n 1, 37), (37, .iload_n 2, 38), (38, .iload 4, 40), (40, .invokevirtual 205, 43), (43, .astore 5, 45), (45, .aload 5, 47), (47, .ifnull 8, 50), (50, .aload 5, 52), (52, .invokevirtual 270, 55), (55, .iinc 4 1, 58), (58, .goto (-35), 61), (61, .aload_n 3, 62), (62, .iconst 0, 63), (63, .putfield 153, 66), (66, .iconst 1, 67), (67, .ireturn, 68)]
theorem dec_113_0 : ((il_113.drop 0).take 50).all (fun q => decide (decode prog_12_method_22_code q.1 = .ok (q.2.1, q.2.2 - q.1))) = true := by decide +kernel
-- 114: PipelineSimulator$Simulation.takeInput(LPipelineSimulator$Operator;LPipelineSimulator$Instance;)Z
def il_114 : List (Nat × Instr × Nat) := [(0, .aload_n 0, 1), (1, .getfield 135, 4), (4, .aload_n 0, 5), (5, .getfield 23, 8), (8, .getfield 156, 11), (11, .if_icmp .lt 5, 14), (14, .iconst 0, 15), (15, .ireturn, 16), (16, .aload_n 2, 17), (17, .getfield 168, 20), (20, .aload_n 0, 21), (21, .getfield 23, 24), (24, .aload_n 0, 25), (25, .getfield 135, 28), (28, .invokevirtual 193, 31), (31, .aload_n 0, 32), (32, .getfield 23, 35), (35, .aload_n 0, 36), (36, .getfield 135, 39), (39, .invokevirtual 254, 42), (42, .aload_n 0, 43), (43, .getfield 103, 46), (46, .invokevirtual 273, 49), (49, .aload_n 0, 50), (50, .dup, 51), (51, .getfield 135, 54), (54, .iconst 1, 55), (55, .iadd, 56), (56, .putfield 135, 59), (59, .aload_n 1, 60), (60, .dup, 61), (61, .getfield 276, 64), (64, .iconst 1, 65), (65, .iadd, 66), (66, .putfield 276, 69), (69, .aload_n 1, 70), (70, .dup, 71), (71, .getfield 279, 74), (74, .iconst 1, 75), (75, .iadd, 76), (76, .putfield 279, 79), (79, .iconst 1, 80), (80, .ireturn, 81)]
theorem dec_114_0 : ((il_114.drop 0).take 50).all (fun q => decide (decode prog_12_method_23_code q.1 = .ok (q.2.1, q.2.2 - q.1))) = true := by decide +kernel
-- 115: PipelineSimulator$Channel.hasItem()Z
def il_115 : List (Nat × Instr × Nat) := [(0, .aload_n 0, 1), (1, .getfield 26, 4), (4, .ifCond .le 7, 7), (7, .iconst 1, 8), (8, .goto 4, 11), (11, .iconst 0, 12), (12, .ireturn, 13)]
theorem dec_115_0 : ((il_115.drop 0).take 50).all (fun q => decide (decode prog_2_method_8_code q.1 = .ok (q.2.1, q.2.2 - q.1))) = true := by decide +kernel
-- 116: PipelineSimulator$Simulation.inputToTake(II)I
def il_116 : List (Nat × Instr × Nat) := [(0, .aload_n 0, 1), (1, .iload_n 1, 2), (2, .iload_n 2, 3), (3, .invokevirtual 141, 6), (6, .astore_n 3, 7), (7, .aload_n 0, 8), (8, .iload_n 1, 9), (9, .iconst 1, 10), (10, .isub, 11), (11, .invokevirtual 129, 14), (14, .istore 4, 16), (16, .aload_n 3, 17), (17, .ifnull 8, 20), (20, .iload 4, 22), (22, .ifCond .gt 5, 25), (25, .iconst (-1), 26), (26, .ireturn, 27), (27, .iconst 0, 28), (28, .istore 5, 30), (30, .iload 5, 32), (32, .iload 4, 34), (34, .if_icmp .ge 75, 37), (37, .aload_n 3, 38), (38, .getfield 212, 41), (41, .iload 5, 43), (43, .iadd, 44), (44, .iload 4, 46), (46, .invokestatic 200, 49), (49, .istore 6, 51), (51, .aload_n 0, 52), (52, .iload_n 1, 53), (53, .iconst 1, 54), (54, .isub, 55), (55, .iload 6, 57), (57, .iload_n 2, 58), (58, .invokevirtual 205, 61), (61, .astore 7, 63), (63, .aload_n 3, 64), (64, .getfield 215, 67), (67, .iload 6, 69), (69, .ishr, 70), (70, .iconst 1, 71), (71, .iand, 72), (72, .ifCond .eq 7, 75), (75, .iconst 1, 76), (76, .goto 4, 79), (79, .iconst 0, 80), (80, .istore 8, 82), (82, .aload 7, 84), (84, .ifnull 19, 87), (87, .iload 8, 89), (89, .ifCond .ne 14, 92), (92, .aload 7, 94), (94, .invokevirtual 218, 97), (97, .ifCond .eq 6, 100), (100, .iload 6, 102), (102, .ireturn, 103), (103, .iinc 5 1, 106), (106, .goto (-76), 109), (109, .iconst (-1), 110), (110, .ireturn, 111)]
theorem dec_116_0 : ((il_116.drop 0).take 50).all (fun q => decide (decode prog_12_method_18_code q.1 = .ok (q.2.1, q.2.2 - q.1))) = true := by decide +kernel
theorem dec_116_50 : ((il_116.drop 50).take 50).all (fun q => decide (decode prog_12_method_18_code q.1 = .ok (q.2.1, q.2.2 - q.1))) = true := by decide +kernel
-- 117: PipelineSimulator$Channel.startsWithBarrier()Z
def il_117 : List (Nat × Instr × Nat) := [(0, .aload_n 0, 1), (1, .getfield 26, 4), (4, .ifCond .le 22, 7), (7, .aload_n 0, 8), (8, .getfield 18, 11), (11, .aload_n 0, 12), (12, .getfield 59, 15), (15, .iconst 3, 16), (16, .iand, 17), (17, .iaload, 18), (18, .iconst (-1), 19), (19, .if_icmp .ne 7, 22), (22, .iconst 1, 23), (23, .goto 4, 26), (26, .iconst 0, 27), (27, .ireturn, 28)]
theorem dec_117_0 : ((il_117.drop 0).take 50).all (fun q => decide (decode prog_2_method_10_code q.1 = .ok (q.2.1, q.2.2 - q.1))) = true := by decide +kernel
-- 118: PipelineSimulator$Channel.removeItem()V
def il_118 : List (Nat × Instr × Nat) := [(0, .aload_n 0, 1), (1, .getfield 26, 4), (4, .ifCond .gt 4, 7), (7, .return_, 8), (8, .aload_n 0, 9), (9, .getfield 59, 12), (12, .iconst 3, 13), (13, .iand, 14), (14, .istore_n 1, 15), (15, .aload_n 0, 16), (16, .getfield 18, 19), (19, .iload_n 1, 20), (20, .iaload, 21), (21, .iconst (-1), 22), (22, .if_icmp .eq 30, 25), (25, .aload_n 0, 26), (26, .getfield 12, 29), (29, .invokevirtual 62, 32), (32, .aload_n 0, 33), (33, .getfield 18, 36), (36, .iload_n 1, 37), (37, .dup2, 38), (38, .iaload, 39), (39, .iconst 1, 40), (40, .isub, 41), (41, .iastore, 42), (42, .aload_n 0, 43), (43, .getfield 18, 46), (46, .iload_n 1, 47), (47, .iaload, 48), (48, .ifCond .le 4, 51), (51, .return_, 52), (52, .aload_n 0, 53), (53, .aload_n 0, 54), (54, .getfield 59, 57), (57, .iconst 1, 58), (58, .iadd, 59), (59, .iconst 3, 60), (60, .iand, 61), (61, .putfield 59, 64), (64, .aload_n 0, 65), (65, .dup, 66), (66, .getfield 26, 69), (69, .iconst 1, 70), (70, .isub, 71), (71, .putfield 26, 74), (74, .return_, 75)]
theorem dec_118_0 : ((il_118.drop 0).take 50).all (fun q => decide (decode prog_2_method_11_code q.1 = .ok (q.2.1, q.2.2 - q.1))) = true := by decide +kernel
-- 119: PipelineSimulator$Keyed.copyKey(LPipelineSimulator$Keyed;I)V
def il_119 : List (Nat × Instr × Nat) := [(0, .iload_n 2, 1), (1, .bipush 15, 3), (3, .iand, 4), (4, .istore_n 3, 5), (5, .iconst 1, 6), (6, .iload_n 3, 7), (7, .ishl, 8), (8, .istore 4, 10), (10, .aload_n 0, 11), (11, .getfield 9, 14), (14, .iload_n 3, 15), (15, .aload_n 1, 16), (16, .getfield 9, 19), (19, .iload_n 3, 20), (20, .iaload, 21), (21, .iastore, 22), (22, .aload_n 0, 23), (23, .getfield 15, 26), (26, .iload_n 3, 27), (27, .aload_n 1, 28), (28, .getfield 15, 31), (31, .iload_n 3, 32), (32, .iaload, 33), (33, .iastore, 34), (34, .aload_n 0, 35), (35, .aload_n 0, 36), (36, .getfield 18, 39), (39, .iload 4, 41), (41, .iconst (-1), 42), (42, .ixor, 43), (43, .iand, 44), (44, .aload_n 1, 45), (45, .getfield 18, 48), (48, .iload 4, 50), (50, .iand, 51), (51, .ior, 52), (52, .putfield 18, 55), (55, .return_, 56)]
theorem dec_119_0 : ((il_119.drop 0).take 50).all (fun q => decide (decode prog_5_method_7_code q.1 = .ok (q.2.1, q.2.2 - q.1))) = true := by decide +kernel
-- 120: PipelineSimulator$Operator.savePending(I)V
def il_120 : List (Nat × Instr × Nat) := [(0, .iconst 0, 1), (1, .istore_n 2, 2), (2, .iload_n 2, 3), (3, .bipush 16, 5), (5, .if_icmp .ge 34, 8), (8, .aload_n 0, 9), (9, .iload_n 2, 10), (10, .aload_n 0, 11), (11, .getfield 57, 14), (14, .invokevirtual 64, 17), (17, .iload_n 1, 18), (18, .if_icmp .ne 15, 21), (21, .aload_n 0, 22), (22, .getfield 24, 25), (25, .aload_n 0, 26), (26, .getfield 20, 29), (29, .iload_n 2, 30), (30, .invokevirtual 94, 33), (33, .iinc 2 1, 36), (36, .goto (-34), 39), (39, .return_, 40)]
theorem dec_120_0 : ((il_120.drop 0).take 50).all (fun q => decide (decode prog_7_method_10_code q.1 = .ok (q.2.1, q.2.2 - q.1))) = true := by decide +kernel
-- 121: PipelineSimulator$Simulation.saveInstance(ILPipelineSimulator$Operator;LPipelineSimulator$Instance;)V
def il_121 : List (Nat × Instr × Nat) := [(0, .aload_n 3, 1), (1, .iconst 0, 2), (2, .putfield 215, 5), (5, .aload_n 3, 6), (6, .aload_n 3, 7), (7, .getfield 145, 10), (10, .putfield 150, 13), (13, .aload_n 2, 14), (14, .iload_n 1, 15), (15, .invokevirtual 305, 18), (18, .aload_n 2, 19), (19, .getfield 295, 22), (22, .bipush 8, 24), (24, .if_icmp .ne 16, 27), (27, .aload_n 0, 28), (28, .dup, 29), (29, .getfield 132, 32), (32, .iconst 1, 33), (33, .isub, 34), (34, .putfield 132, 37), (37, .goto 8, 40), (40, .aload_n 3, 41), (41, .iconst 1, 42), (42, .putfield 153, 45), (45, .return_, 46)]
theorem dec_121_0 : ((il_121.drop 0).take 50).all (fun q => decide (decode prog_12_method_25_code q.1 = .ok (q.2.1, q.2.2 - q.1))) = true := by decide +kernel
-- 122: java/util/Arrays.copyOf([II)[I
def il_122 : List (Nat × Instr × Nat) := [(0, .iload_n 1, 1), (1, .aload_n 0, 2), (2, .arraylength, 3), (3, .if_icmp .ne 11, 6), (6, .aload_n 0, 7), (7, .invokevirtual 316, 10), (10, .checkcast 317, 13), (13, .areturn, 14), (14, .iload_n 1, 15), (15, .newarray .int, 17), (17, .astore_n 2, 18), (18, .aload_n 0, 19), (19, .iconst 0, 20), (20, .aload_n 2, 21), (21, .iconst 0, 22), (22, .aload_n 0, 23), (23, .arraylength, 24), (24, .iload_n 1, 25), (25, .invokestatic 304, 28), (28, .invokestatic 150, 31), (31, .aload_n 2, 32), (32, .areturn, 33)]
theorem dec_122_0 : ((il_122.drop 0).take 50).all (fun q => decide (decode prog_26_method_123_code q.1 = .ok (q.2.1, q.2.2 - q.1))) = true := by decide +kernel
-- 123: PipelineSimulator$Latencies.note(I)V
def il_123 : List (Nat × Instr × Nat) := [(0, .iconst 0, 1), (1, .iload_n 1, 2), (2, .ldc 13, 4), (4, .invokestatic 14, 7), (7, .invokestatic 20, 10), (10, .istore_n 2, 11), (11, .iload_n 2, 12), (12, .aload_n 0, 13), (13, .getfield 7, 16), (16, .arraylength, 17), (17, .if_icmp .lt 27, 20), (20, .aload_n 0, 21), (21, .aload_n 0, 22), (22, .getfield 7, 25), (25, .iload_n 2, 26), (26, .iconst 1, 27), (27, .iadd, 28), (28, .iconst 2, 29), (29, .aload_n 0, 30), (30, .getfield 7, 33), (33, .arraylength, 34), (34, .imul, 35), (35, .invokestatic 20, 38), (38, .invokestatic 23, 41), (41, .putfield 7, 44), (44, .aload_n 0, 45), (45, .getfield 7, 48), (48, .iload_n 2, 49), (49, .dup2, 50), (50, .iaload, 51), (51, .iconst 1, 52), (52, .iadd, 53), (53, .iastore, 54), (54, .aload_n 0, 55), (55, .dup, 56), (56, .getfield 29, 59), (59, .iconst 1, 60), (60, .iadd, 61), (61, .putfield 29, 64), (64, .aload_n 0, 65), (65, .dup, 66), (66, .getfield 33, 69), (69, .iload_n 1, 70), (70, .iadd, 71), (71, .putfield 33, 74), (74, .return_, 75)]
theorem dec_123_0 : ((il_123.drop 0).take 50).all (fun q => decide (decode prog_6_method_2_code q.1 = .ok (q.2.1, q.2.2 - q.1))) = true := by decide +kernel
-- 124: PipelineSimulator$Operator.passes(I)Z
def il_124 : List (Nat × Instr × Nat) := [(0, .aload_n 0, 1), (1, .getfield 51, 4), (4, .ifCond .ne 17, 7), (7, .iload_n 1, 8), (8, .aload_n 0, 9), (9, .getfield 54, 12), (12, .if_icmp .ge 7, 15), (15, .iconst 1, 16), (16, .goto 4, 19), (19, .iconst 0, 20), (20, .ireturn, 21), (21, .aload_n 0, 22), (22, .getfield 51, 25), (25, .iconst 1, 26), (26, .if_icmp .ne 19, 29), (29, .iload_n 1, 30), (30, .aload_n 0, 31), (31, .getfield 54, 34), (34, .if_icmp .ne 7, 37), (37, .iconst 1, 38), (38, .goto 20, 41), (41, .iconst 0, 42), (42, .goto 16, 45), (45, .iload_n 1, 46), (46, .aload_n 0, 47), (47, .getfield 54, 50), (50, .if_icmp .le 7, 53), (53, .iconst 1, 54), (54, .goto 4, 57), (57, .iconst 0, 58), (58, .ireturn, 59)]
theorem dec_124_0 : ((il_124.drop 0).take 50).all (fun q => decide (decode prog_7_method_13_code q.1 = .ok (q.2.1, q.2.2 - q.1))) = true := by decide +kernel
-- 125: PipelineSimulator$Keyed.firstOf(I)I
def il_125 : List (Nat × Instr × Nat) := [(0, .aload_n 0, 1), (1, .getfield 9, 4), (4, .iload_n 1, 5), (5, .bipush 15, 7), (7, .iand, 8), (8, .iaload, 9), (9, .ireturn, 10)]
theorem dec_125_0 : ((il_125.drop 0).take 50).all (fun q => decide (decode prog_5_method_3_code q.1 = .ok (q.2.1, q.2.2 - q.1))) = true := by decide +kernel
-- 126: PipelineSimulator$Keyed.secondOf(I)I
def il_126 : List (Nat × Instr × Nat) := [(0, .aload_n 0, 1), (1, .getfield 15, 4), (4, .iload_n 1, 5), (5, .bipush 15, 7), (7, .iand, 8), (8, .iaload, 9), (9, .ireturn, 10)]
theorem dec_126_0 : ((il_126.drop 0).take 50).all (fun q => decide (decode prog_5_method_4_code q.1 = .ok (q.2.1, q.2.2 - q.1))) = true := by decide +kernel
-- 127: PipelineSimulator$Keyed.remove(I)V
def il_127 : List (Nat × Instr × Nat) := [(0, .aload_n 0, 1), (1, .getfield 9, 4), (4, .iload_n 1, 5), (5, .bipush 15, 7), (7, .iand, 8), (8, .iconst 0, 9), (9, .iastore, 10), (10, .aload_n 0, 11), (11, .getfield 15, 14), (14, .iload_n 1, 15), (15, .bipush 15, 17), (17, .iand, 18), (18, .iconst 0, 19), (19, .iastore, 20), (20, .aload_n 0, 21), (21, .dup, 22), (22, .getfield 18, 25), (25, .iconst 1, 26), (26, .iload_n 1, 27), (27, .bipush 15, 29), (29, .iand, 30), (30, .ishl, 31), (31, .iconst (-1), 32), (32, .ixor, 33), (33, .iand, 34), (34, .putfield 18, 37), (37, .return_, 38)]
theorem dec_127_0 : ((il_127.drop 0).take 50).all (fun q => decide (decode prog_5_method_6_code q.1 = .ok (q.2.1, q.2.2 - q.1))) = true := by decide +kernel
-- 128: PipelineSimulator$Keyed.put(III)V
def il_128 : List (Nat × Instr × Nat) := [(0, .aload_n 0, 1), (1, .getfield 9, 4), (4, .iload_n 1, 5), (5, .bipush 15, 7), (7, .iand, 8), (8, .iload_n 2, 9), (9, .iastore, 10), (10, .aload_n 0, 11), (11, .getfield 15, 14), (14, .iload_n 1, 15), (15, .bipush 15, 17), (17, .iand, 18), (18, .iload_n 3, 19), (19, .iastore, 20), (20, .aload_n 0, 21), (21, .dup, 22), (22, .getfield 18, 25), (25, .iconst 1, 26), (26, .iload_n 1, 27), (27, .bipush 15, 29), (29, .iand, 30), (30, .ishl, 31), (31, .ior, 32), (32, .putfield 18, 35), (35, .return_, 36)]
theorem dec_128_0 : ((il_128.drop 0).take 50).all (fun q => decide (decode prog_5_method_5_code q.1 = .ok (q.2.1, q.2.2 - q.1))) = true := by decide +kernel
-- 129: PipelineSimulator$Operator.addToSum(LPipelineSimulator$Keyed;IIILPipelineSimulator$Records;)V
def il_129 : List (Nat × Instr × Nat) := [(0, .aload_n 1, 1), (1, .iload_n 2, 2), (2, .invokevirtual 120, 5), (5, .iload_n 3, 6), (6, .iadd, 7), (7, .istore 6, 9), (9, .aload_n 1, 10), (10, .iload_n 2, 11), (11, .invokevirtual 127, 14), (14, .iconst 1, 15), (15, .iadd, 16), (16, .istore 7, 18), (18, .iload 7, 20), (20, .aload_n 0, 21), (21, .getfield 51, 24), (24, .if_icmp .ne 21, 27), (27, .aload 5, 29), (29, .iload_n 2, 30), (30, .iload 6, 32), (32, .iload 4, 34), (34, .invokevirtual 104, 37), (37, .aload_n 1, 38), (38, .iload_n 2, 39), (39, .invokevirtual 130, 42), (42, .goto 12, 45), (45, .aload_n 1, 46), (46, .iload_n 2, 47), (47, .iload 6, 49), (49, .iload 7, 51), (51, .invokevirtual 124, 54), (54, .return_, 55)]
theorem dec_129_0 : ((il_129.drop 0).take 50).all (fun q => decide (decode prog_7_method_14_code q.1 = .ok (q.2.1, q.2.2 - q.1))) = true := by decide +kernel
-- 130: PipelineSimulator$Keyed.has(I)Z
def il_130 : List (Nat × Instr × Nat) := [(0, .aload_n 0, 1), (1, .getfield 18, 4), (4, .iload_n 1, 5), (5, .bipush 15, 7), (7, .iand, 8), (8, .ishr, 9), (9, .iconst 1, 10), (10, .iand, 11), (11, .ifCond .eq 7, 14), (14, .iconst 1, 15), (15, .goto 4, 18), (18, .iconst 0, 19), (19, .ireturn, 20)]
theorem dec_130_0 : ((il_130.drop 0).take 50).all (fun q => decide (decode prog_5_method_2_code q.1 = .ok (q.2.1, q.2.2 - q.1))) = true := by decide +kernel
-- 131: PipelineSimulator$Operator.handle(LPipelineSimulator$Keyed;IIILPipelineSimulator$Records;)V
def il_131 : List (Nat × Instr × Nat) := [(0, .aload_n 0, 1), (1, .getfield 47, 4), (4, .tableswitch 262 0 8 #[52, 74, 94, 121, 154, 168, 204, 262, 240], 56), (56, .aload 5, 58), (58, .iload_n 2, 59), (59, .iload_n 3, 60), (60, .aload_n 0, 61), (61, .getfield 51, 64), (64, .imul, 65), (65, .aload_n 0, 66), (66, .getfield 54, 69), (69, .iadd, 70), (70, .iload 4, 72), (72, .invokevirtual 104, 75), (75, .goto 191, 78), (78, .aload_n 0, 79), (79, .iload_n 3, 80), (80, .invokevirtual 108, 83), (83, .ifCond .eq 183, 86), (86, .aload 5, 88), (88, .iload_n 2, 89), (89, .iload_n 3, 90), (90, .iload 4, 92), (92, .invokevirtual 104, 95), (95, .goto 171, 98), (98, .aload 5, 100), (100, .iload_n 2, 101), (101, .aload_n 0, 102), (102, .getfield 51, 105), (105, .imul, 106), (106, .aload_n 0, 107), (107, .getfield 54, 110), (110, .iadd, 111), (111, .bipush 16, 113), (113, .invokestatic 111, 116), (116, .iload_n 3, 117), (117, .iload 4, 119), (119, .invokevirtual 104, 122), (122, .goto 144, 125), (125, .iconst 0, 126), (126, .istore 6, 128), (128, .iload 6, 130), (130, .aload_n 0, 131), (131, .getfield 51, 134), (134, .if_icmp .ge 21, 137), (137, .aload 5, 139), (139, .iload_n 2, 140), (140, .iload_n 3, 141), (141, .iload 6, 143), (143, .iadd, 144), (144, .iload 4, 146), (146, .invokevirtual 104, 149), (149, .iinc 6 1, 152), (152, .goto (-24), 155), (155, .goto 111, 158), (158, .aload_n 0, 159), (159, .aload_n 1, 160), (160, .iload_n 2, 161), (161, .iload_n 3, 162), (162, .iload 4, 164), (164, .aload 5, 166), (166, .invokevirtual 116, 169), (169, .goto 97, 172), (172, .aload_n 1, 173), (173, .iload_n 2, 174), (174, .invokevirtual 60, 177), (177, .ifCond .eq 12, 180), (180, .aload_n 1, 181), (181, .iload_n 2, 182), (182, .invokevirtual 120, 185), (185, .iload_n 3, 186), (186, .if_icmp .eq 12, 189), (189, .aload 5, 191), (191, .iload_n 2, 192), (192, .iload_n 3, 193), (193, .iload 4, 195), (195, .invokevirtual 104, 198), (198, .aload_n 1, 199), (199, .iload_n 2, 200), (200, .iload_n 3, 201), (201, .iconst 0, 202), (202, .invokevirtual 124, 205), (205, .goto 61, 208), (208, .aload_n 1, 209), (209, .iload_n 2, 210), (210, .invokevirtual 60, 213), (213, .ifCond .eq 12, 216), (216, .iload_n 3, 217), (217, .aload_n 1, 218), (218, .iload_n 2, 219), (219, .invokevirtual 120, 222), (222, .if_icmp .le 44, 225), (225, .aload 5, 227), (227, .iload_n 2, 228), (228, .iload_n 3, 229), (229, .iload 4, 231), (231, .invokevirtual 104, 234), (234, .aload_n 1, 235), (235, .iload_n 2, 236), (236, .iload_n 3, 237), (237, .iconst 0, 238), (238, .invokevirtual 124, 241), (241, .goto 25, 244), (244, .aload_n 1, 245), (245, .iload_n 2, 246), (246, .aload_n 1, 247), (247, .iload_n 2, 248), (248, .invokevirtual 120, 251), (251, .iload_n 3, 252), (252, .iadd, 253), (253, .aload_n 1, 254), (254, .iload_n 2, 255), (255, .invokevirtual 127, 258), (258, .iconst 1, 259), (259, .iadd, 260), (260, .invokevirtual 124, 263), (263, .goto 3, 266), (266, .return_, 267)]
theorem dec_131_0 : ((il_131.drop 0).take 50).all (fun q => decide (decode prog_7_method_12_code q.1 = .ok (q.2.1, q.2.2 - q.1))) = true := by decide +kernel
theorem dec_131_50 : ((il_131.drop 50).take 50).all (fun q => decide (decode prog_7_method_12_code q.1 = .ok (q.2.1, q.2.2 - q.1))) = true := by decide +kernel
theorem dec_131_100 : ((il_131.drop 100).take 50).all (fun q => decide (decode prog_7_method_12_code q.1 = .ok (q.2.1, q.2.2 - q.1))) = true := by decide +kernel
-- 132: PipelineSimulator$Simulation.takeItem(IILPipelineSimulator$Operator;LPipelineSimulator$Instance;)Z
def il_132 : List (Nat × Instr × Nat) := [(0, .aload_n 0, 1), (1, .iload_n 1, 2), (2, .iconst 1, 3), (3, .isub, 4), (4, .invokevirtual 129, 7), (7, .istore 5, 9), (9, .aload_n 0, 10), (10, .iload_n 1, 11), (11, .iload_n 2, 12), (12, .invokevirtual 282, 15), (15, .istore 6, 17), (17, .aload_n 0, 18), (18, .iload_n 1, 19), (19, .iconst 1, 20), (20, .isub, 21), (21, .iload 6, 23), (23, .iload_n 2, 24), (24, .invokevirtual 205, 27), (27, .astore 7, 29), (29, .aload 7, 31), (31, .ifnull 8, 34), (34, .iload 5, 36), (36, .ifCond .gt 5, 39), (39, .iconst 0, 40), (40, .ireturn, 41), (41, .aload 4, 43), (43, .iload 6, 45), (45, .iconst 1, 46), (46, .iadd, 47), (47, .iload 5, 49), (49, .irem, 50), (50, .putfield 212, 53), (53, .aload 7, 55), (55, .invokevirtual 285, 58), (58, .ifCond .eq 46, 61), (61, .aload 7, 63), (63, .invokevirtual 288, 66), (66, .aload 4, 68), (68, .dup, 69), (69, .getfield 215, 72), (72, .iconst 1, 73), (73, .iload 6, 75), (75, .ishl, 76), (76, .ior, 77), (77, .putfield 215, 80), (80, .aload 4, 82), (82, .getfield 215, 85), (85, .iconst 1, 86), (86, .iload 5, 88), (88, .ishl, 89), (89, .iconst 1, 90), (90, .isub, 91), (91, .if_icmp .ne 11, 94), (94, .aload_n 0, 95), (95, .iload_n 2, 96), (96, .aload_n 3, 97), (97, .aload 4, 99), (99, .invokevirtual 291, 102), (102, .iconst 1, 103), (103, .ireturn, 104), (104, .aload 7, 106), (106, .getfield 165, 109), (109, .iconst 0, 110), (110, .invokevirtual 193, 113), (113, .istore 8, 115), (115, .aload 7, 117), (117, .getfield 165, 120), (120, .iconst 0, 121), (121, .invokevirtual 254, 124), (124, .istore 9, 126), (126, .aload 7, 128), (128, .getfield 165, 131), (131, .iconst 0, 132), (132, .invokevirtual 257, 135), (135, .istore 10, 137), (137, .aload 7, 139), (139, .invokevirtual 288, 142), (142, .aload_n 3, 143), (143, .dup, 144), (144, .getfield 276, 147), (147, .iconst 1, 148), (148, .iadd, 149), (149, .putfield 276, 152), (152, .aload_n 3, 153), (153, .getfield 295, 156), (156, .bipush 8, 158), (158, .if_icmp .ne 17, 161), (161, .aload_n 0, 162), (162, .getfield 42, 165), (165, .aload_n 0, 166), (166, .getfield 103, 169), (169, .iload 10, 171), (171, .isub, 172), (172, .invokevirtual 298, 175), (175, .aload_n 3, 176), (176, .aload_n 3, 177), (177, .getfield 171, 180), (180, .iload 8, 182), (182, .iload 9, 184), (184, .iload 10, 186), (186, .aload 4, 188), (188, .getfield 168, 191), (191, .invokevirtual 301, 194), (194, .aload_n 3, 195), (195, .dup, 196), (196, .getfield 279, 199), (199, .aload 4, 201), (201, .getfield 168, 204), (204, .getfield 156, 207), (207, .iadd, 208), (208, .putfield 279, 211), (211, .iconst 1, 212), (212, .ireturn, 213)]
theorem dec_132_0 : ((il_132.drop 0).take 50).all (fun q => decide (decode prog_12_method_24_code q.1 = .ok (q.2.1, q.2.2 - q.1))) = true := by decide +kernel
theorem dec_132_50 : ((il_132.drop 50).take 50).all (fun q => decide (decode prog_12_method_24_code q.1 = .ok (q.2.1, q.2.2 - q.1))) = true := by decide +kernel
theorem dec_132_100 : ((il_132.drop 100).take 50).all (fun q => decide (decode prog_12_method_24_code q.1 = .ok (q.2.1, q.2.2 - q.1))) = true := by decide +kernel
-- 133: PipelineSimulator$Simulation.work(II)V
def il_133 : List (Nat × Instr × Nat) := [(0, .aload_n 0, 1), (1, .iload_n 1, 2), (2, .invokevirtual 54, 5), (5, .astore_n 3, 6), (6, .aload_n 0, 7), (7, .iload_n 1, 8), (8, .iload_n 2, 9), (9, .invokevirtual 141, 12), (12, .astore 4, 14), (14, .aload_n 3, 15), (15, .ifnull 8, 18), (18, .aload 4, 20), (20, .ifnonnull 4, 23), (23, .return_, 24), (24, .aload_n 0, 25), (25, .getfield 12, 28), (28, .getfield 223, 31), (31, .istore 5, 33), (33, .iload 5, 35), (35, .ifCond .lt 89, 38), (38, .aload_n 0, 39), (39, .iload_n 1, 40), (40, .iload_n 2, 41), (41, .aload 4, 43), (43, .invokevirtual 226, 46), (46, .ifCond .eq 14, 49), (49, .aload_n 0, 50), (50, .iload_n 1, 51), (51, .iload_n 2, 52), (52, .aload 4, 54), (54, .invokevirtual 230, 57), (57, .ifCond .ne 14, 60), (60, .aload_n 3, 61), (61, .dup, 62), (62, .getfield 233, 65), (65, .iconst 1, 66), (66, .iadd, 67), (67, .putfield 233, 70), (70, .return_, 71), (71, .iload 5, 73), (73, .ifCond .ne 4, 76), (76, .return_, 77), (77, .iload_n 1, 78), (78, .ifCond .ne 13, 81), (81, .aload_n 0, 82), (82, .aload_n 3, 83), (83, .aload 4, 85), (85, .invokevirtual 236, 88), (88, .goto 12, 91), (91, .aload_n 0, 92), (92, .iload_n 1, 93), (93, .iload_n 2, 94), (94, .aload_n 3, 95), (95, .aload 4, 97), (97, .invokevirtual 240, 100), (100, .istore 6, 102), (102, .iload 6, 104), (104, .ifCond .ne 14, 107), (107, .aload_n 3, 108), (108, .dup, 109), (109, .getfield 244, 112), (112, .iconst 1, 113), (113, .iadd, 114), (114, .putfield 244, 117), (117, .return_, 118), (118, .iinc 5 (-1), 121), (121, .goto (-88), 124), (124, .return_, 125)]
theorem dec_133_0 : ((il_133.drop 0).take 50).all (fun q => decide (decode prog_12_method_20_code q.1 = .ok (q.2.1, q.2.2 - q.1))) = true := by decide +kernel
theorem dec_133_50 : ((il_133.drop 50).take 50).all (fun q => decide (decode prog_12_method_20_code q.1 = .ok (q.2.1, q.2.2 - q.1))) = true := by decide +kernel
-- 134: PipelineSimulator$Operator.completePending()V
def il_134 : List (Nat × Instr × Nat) := [(0, .aload_n 0, 1), (1, .getfield 27, 4), (4, .aload_n 0, 5), (5, .getfield 24, 8), (8, .invokevirtual 87, 11), (11, .iconst 0, 12), (12, .istore_n 1, 13), (13, .iload_n 1, 14), (14, .aload_n 0, 15), (15, .getfield 57, 18), (18, .if_icmp .ge 37, 21), (21, .iload_n 1, 22), (22, .aload_n 0, 23), (23, .getfield 11, 26), (26, .arraylength, 27), (27, .if_icmp .ge 28, 30), (30, .aload_n 0, 31), (31, .getfield 11, 34), (34, .iload_n 1, 35), (35, .aaload, 36), (36, .astore_n 2, 37), (37, .aload_n 2, 38), (38, .ifnull 11, 41), (41, .aload_n 2, 42), (42, .aload_n 2, 43), (43, .getfield 98, 46), (46, .putfield 101, 49), (49, .iinc 1 1, 52), (52, .goto (-39), 55), (55, .return_, 56)]
theorem dec_134_0 : ((il_134.drop 0).take 50).all (fun q => decide (decode prog_7_method_11_code q.1 = .ok (q.2.1, q.2.2 - q.1))) = true := by decide +kernel
-- 135: PipelineSimulator$Simulation.completeCheckpoint()V
def il_135 : List (Nat × Instr × Nat) := [(0, .aload_n 0, 1), (1, .aload_n 0, 2), (2, .getfield 126, 5), (5, .putfield 100, 8), (8, .aload_n 0, 9), (9, .iconst 0, 10), (10, .putfield 126, 13), (13, .aload_n 0, 14), (14, .aload_n 0, 15), (15, .getfield 138, 18), (18, .putfield 97, 21), (21, .iconst 0, 22), (22, .istore_n 1, 23), (23, .iload_n 1, 24), (24, .aload_n 0, 25), (25, .getfield 50, 28), (28, .iconst 1, 29), (29, .iadd, 30), (30, .if_icmp .gt 23, 33), (33, .aload_n 0, 34), (34, .iload_n 1, 35), (35, .invokevirtual 54, 38), (38, .astore_n 2, 39), (39, .aload_n 2, 40), (40, .ifnull 7, 43), (43, .aload_n 2, 44), (44, .invokevirtual 308, 47), (47, .iinc 1 1, 50), (50, .goto (-27), 53), (53, .return_, 54)]
theorem dec_135_0 : ((il_135.drop 0).take 50).all (fun q => decide (decode prog_12_method_26_code q.1 = .ok (q.2.1, q.2.2 - q.1))) = true := by decide +kernel
-- 136: PipelineSimulator$Simulation.performTick()V
def il_136 : List (Nat × Instr × Nat) := [(0, .aload_n 0, 1), (1, .iconst 1, 2), (2, .putfield 106, 5), (5, .aload_n 0, 6), (6, .getfield 35, 9), (9, .astore_n 1, 10), (10, .aload_n 1, 11), (11, .arraylength, 12), (12, .istore_n 2, 13), (13, .iconst 0, 14), (14, .istore_n 3, 15), (15, .iload_n 3, 16), (16, .iload_n 2, 17), (17, .if_icmp .ge 24, 20), (20, .aload_n 1, 21), (21, .iload_n 3, 22), (22, .aaload, 23), (23, .astore 4, 25), (25, .aload 4, 27), (27, .ifnull 8, 30), (30, .aload 4, 32), (32, .invokevirtual 180, 35), (35, .iinc 3 1, 38), (38, .goto (-23), 41), (41, .aload_n 0, 42), (42, .getfield 50, 45), (45, .iconst 1, 46), (46, .iadd, 47), (47, .istore_n 1, 48), (48, .iload_n 1, 49), (49, .ifCond .lt 32, 52), (52, .iconst 0, 53), (53, .istore_n 2, 54), (54, .iload_n 2, 55), (55, .aload_n 0, 56), (56, .iload_n 1, 57), (57, .invokevirtual 129, 60), (60, .if_icmp .ge 15, 63), (63, .aload_n 0, 64), (64, .iload_n 1, 65), (65, .iload_n 2, 66), (66, .invokevirtual 183, 69), (69, .iinc 2 1, 72), (72, .goto (-18), 75), (75, .iinc 1 (-1), 78), (78, .goto (-30), 81), (81, .aload_n 0, 82), (82, .getfield 126, 85), (85, .ifCond .eq 14, 88), (88, .aload_n 0, 89), (89, .getfield 132, 92), (92, .ifCond .ne 7, 95), (95, .aload_n 0, 96), (96, .invokevirtual 187, 99), (99, .aload_n 0, 100), (100, .dup, 101), (101, .getfield 103, 104), (104, .iconst 1, 105), (105, .iadd, 106), (106, .putfield 103, 109), (109, .return_, 110)]
theorem dec_136_0 : ((il_136.drop 0).take 50).all (fun q => decide (decode prog_12_method_15_code q.1 = .ok (q.2.1, q.2.2 - q.1))) = true := by decide +kernel
theorem dec_136_50 : ((il_136.drop 50).take 50).all (fun q => decide (decode prog_12_method_15_code q.1 = .ok (q.2.1, q.2.2 - q.1))) = true := by decide +kernel
-- 137: PipelineSimulator.tick(I)I
def il_137 : List (Nat × Instr × Nat) := [(0, .iload_n 1, 1), (1, .iconst 1, 2), (2, .if_icmp .lt 10, 5), (5, .iload_n 1, 6), (6, .sipush 200, 9), (9, .if_icmp .le 6, 12), (12, .ldc 51, 14), (14, .ireturn, 15), (15, .iconst 0, 16), (16, .istore_n 2, 17), (17, .iload_n 2, 18), (18, .iload_n 1, 19), (19, .if_icmp .ge 28, 22), (22, .aload_n 0, 23), (23, .getfield 31, 26), (26, .invokevirtual 114, 29), (29, .ifCond .eq 5, 32), (32, .iload_n 2, 33), (33, .ireturn, 34), (34, .aload_n 0, 35), (35, .getfield 31, 38), (38, .invokevirtual 117, 41), (41, .iinc 2 1, 44), (44, .goto (-27), 47), (47, .iload_n 1, 48), (48, .ireturn, 49)]
theorem dec_137_0 : ((il_137.drop 0).take 50).all (fun q => decide (decode prog_1_method_6_code q.1 = .ok (q.2.1, q.2.2 - q.1))) = true := by decide +kernel
-- 138: PipelineSimulatorModel.quiet()Z
def il_138 : List (Nat × Instr × Nat) := [(0, .aload_n 0, 1), (1, .getfield 271, 4), (4, .aload_n 0, 5), (5, .getfield 275, 8), (8, .if_icmp .lt 10, 11), (11, .aload_n 0, 12), (12, .getfield 268, 15), (15, .ifCond .le 5, 18), (18, .iconst 0, 19), (19, .ireturn, 20), (20, .iconst 0, 21), (21, .istore_n 1, 22), (22, .iload_n 1, 23), (23, .bipush 18, 25), (25, .if_icmp .ge 20, 28), (28, .aload_n 0, 29), (29, .getfield 93, 32), (32, .iload_n 1, 33), (33, .iaload, 34), (34, .ifCond .le 5, 37), (37, .iconst 0, 38), (38, .ireturn, 39), (39, .iinc 1 1, 42), (42, .goto (-20), 45), (45, .iconst 0, 46), (46, .istore_n 1, 47), (47, .iload_n 1, 48), (48, .bipush 54, 50), (50, .if_icmp .ge 29, 53), (53, .aload_n 0, 54), (54, .getfield 114, 57), (57, .iload_n 1, 58), (58, .iaload, 59), (59, .ifCond .gt 12, 62), (62, .aload_n 0, 63), (63, .getfield 129, 66), (66, .iload_n 1, 67), (67, .iaload, 68), (68, .ifCond .le 5, 71), (71, .iconst 0, 72), (72, .ireturn, 73), (73, .iinc 1 1, 76), (76, .goto (-29), 79), (79, .iconst 1, 80), (80, .ireturn, 81)]
theorem dec_138_0 : ((il_138.drop 0).take 50).all (fun q => decide (decode prog_14_method_44_code q.1 = .ok (q.2.1, q.2.2 - q.1))) = true := by decide +kernel
-- 139: PipelineSimulatorModel.closes(I)V
def il_139 : List (Nat × Instr × Nat) := [(0, .iconst 4, 1), (1, .iload_n 1, 2), (2, .imul, 3), (3, .aload_n 0, 4), (4, .getfield 129, 7), (7, .iload_n 1, 8), (8, .iaload, 9), (9, .iadd, 10), (10, .istore_n 2, 11), (11, .aload_n 0, 12), (12, .getfield 135, 15), (15, .iload_n 2, 16), (16, .aload_n 0, 17), (17, .getfield 114, 20), (20, .iload_n 1, 21), (21, .iaload, 22), (22, .iastore, 23), (23, .iconst 0, 24), (24, .istore_n 3, 25), (25, .iload_n 3, 26), (26, .aload_n 0, 27), (27, .getfield 114, 30), (30, .iload_n 1, 31), (31, .iaload, 32), (32, .if_icmp .ge 69, 35), (35, .aload_n 0, 36), (36, .getfield 138, 39), (39, .iconst 4, 40), (40, .iload_n 2, 41), (41, .imul, 42), (42, .iload_n 3, 43), (43, .iadd, 44), (44, .aload_n 0, 45), (45, .getfield 120, 48), (48, .iconst 4, 49), (49, .iload_n 1, 50), (50, .imul, 51), (51, .iload_n 3, 52), (52, .iadd, 53), (53, .iaload, 54), (54, .iastore, 55), (55, .aload_n 0, 56), (56, .getfield 141, 59), (59, .iconst 4, 60), (60, .iload_n 2, 61), (61, .imul, 62), (62, .iload_n 3, 63), (63, .iadd, 64), (64, .aload_n 0, 65), (65, .getfield 123, 68), (68, .iconst 4, 69), (69, .iload_n 1, 70), (70, .imul, 71), (71, .iload_n 3, 72), (72, .iadd, 73), (73, .iaload, 74), (74, .iastore, 75), (75, .aload_n 0, 76), (76, .getfield 144, 79), (79, .iconst 4, 80), (80, .iload_n 2, 81), (81, .imul, 82), (82, .iload_n 3, 83), (83, .iadd, 84), (84, .aload_n 0, 85), (85, .getfield 126, 88), (88, .iconst 4, 89), (89, .iload_n 1, 90), (90, .imul, 91), (91, .iload_n 3, 92), (92, .iadd, 93), (93, .iaload, 94), (94, .iastore, 95), (95, .iinc 3 1, 98), (98, .goto (-73), 101), (101, .aload_n 0, 102), (102, .getfield 129, 105), (105, .iload_n 1, 106), (106, .dup2, 107), (107, .iaload, 108), (108, .iconst 1, 109), (109, .iadd, 110), (110, .iastore, 111), (111, .aload_n 0, 112), (112, .getfield 114, 115), (115, .iload_n 1, 116), (116, .iconst 0, 117), (117, .iastore, 118), (118, .aload_n 0, 119), (119, .getfield 117, 122), (122, .iload_n 1, 123), (123, .iconst 0, 124), (124, .iastore, 125), (125, .return_, 126)]
theorem dec_139_0 : ((il_139.drop 0).take 50).all (fun q => decide (decode prog_14_method_24_code q.1 = .ok (q.2.1, q.2.2 - q.1))) = true := by decide +kernel
theorem dec_139_50 : ((il_139.drop 50).take 50).all (fun q => decide (decode prog_14_method_24_code q.1 = .ok (q.2.1, q.2.2 - q.1))) = true := by decide +kernel
-- 140: PipelineSimulatorModel.sink()I
def il_140 : List (Nat × Instr × Nat) := [(0, .aload_n 0, 1), (1, .getfield 196, 4), (4, .iconst 1, 5), (5, .iadd, 6), (6, .ireturn, 7)]
theorem dec_140_0 : ((il_140.drop 0).take 50).all (fun q => decide (decode prog_14_method_3_code q.1 = .ok (q.2.1, q.2.2 - q.1))) = true := by decide +kernel
-- 141: PipelineSimulatorModel.spot(II)I
def il_141 : List (Nat × Instr × Nat) := [(0, .iconst 3, 1), (1, .iload_n 0, 2), (2, .imul, 3), (3, .iload_n 1, 4), (4, .iadd, 5), (5, .ireturn, 6)]
theorem dec_141_0 : ((il_141.drop 0).take 50).all (fun q => decide (decode prog_14_method_20_code q.1 = .ok (q.2.1, q.2.2 - q.1))) = true := by decide +kernel
-- 142: PipelineSimulatorModel.isKeyed(I)Z
def il_142 : List (Nat × Instr × Nat) := [(0, .aload_n 0, 1), (1, .getfield 13, 4), (4, .iload_n 1, 5), (5, .iaload, 6), (6, .iconst 4, 7), (7, .if_icmp .eq 35, 10), (10, .aload_n 0, 11), (11, .getfield 13, 14), (14, .iload_n 1, 15), (15, .iaload, 16), (16, .iconst 5, 17), (17, .if_icmp .eq 25, 20), (20, .aload_n 0, 21), (21, .getfield 13, 24), (24, .iload_n 1, 25), (25, .iaload, 26), (26, .bipush 6, 28), (28, .if_icmp .eq 14, 31), (31, .aload_n 0, 32), (32, .getfield 13, 35), (35, .iload_n 1, 36), (36, .iaload, 37), (37, .bipush 8, 39), (39, .if_icmp .ne 7, 42), (42, .iconst 1, 43), (43, .goto 4, 46), (46, .iconst 0, 47), (47, .ireturn, 48)]
theorem dec_142_0 : ((il_142.drop 0).take 50).all (fun q => decide (decode prog_14_method_5_code q.1 = .ok (q.2.1, q.2.2 - q.1))) = true := by decide +kernel
-- 143: PipelineSimulatorModel.home(II)I
def il_143 : List (Nat × Instr × Nat) := [(0, .iload_n 2, 1), (1, .bipush 8, 3), (3, .irem, 4), (4, .aload_n 0, 5), (5, .getfield 22, 8), (8, .iload_n 1, 9), (9, .iaload, 10), (10, .imul, 11), (11, .bipush 8, 13), (13, .idiv, 14), (14, .ireturn, 15)]
theorem dec_143_0 : ((il_143.drop 0).take 50).all (fun q => decide (decode prog_14_method_6_code q.1 = .ok (q.2.1, q.2.2 - q.1))) = true := by decide +kernel
-- 144: PipelineSimulatorModel.goal(III)I
def il_144 : List (Nat × Instr × Nat) := [(0, .aload_n 0, 1), (1, .iload_n 1, 2), (2, .iconst 1, 3), (3, .iadd, 4), (4, .invokevirtual 281, 7), (7, .ifCond .eq 14, 10), (10, .aload_n 0, 11), (11, .iload_n 1, 12), (12, .iconst 1, 13), (13, .iadd, 14), (14, .iload_n 3, 15), (15, .invokevirtual 285, 18), (18, .goto 22, 21), (21, .aload_n 0, 22), (22, .getfield 84, 25), (25, .iload_n 1, 26), (26, .iload_n 2, 27), (27, .invokestatic 288, 30), (30, .iaload, 31), (31, .aload_n 0, 32), (32, .getfield 22, 35), (35, .iload_n 1, 36), (36, .iconst 1, 37), (37, .iadd, 38), (38, .iaload, 39), (39, .irem, 40), (40, .ireturn, 41)]
theorem dec_144_0 : ((il_144.drop 0).take 50).all (fun q => decide (decode prog_14_method_29_code q.1 = .ok (q.2.1, q.2.2 - q.1))) = true := by decide +kernel
-- 145: PipelineSimulatorModel.line(III)I
def il_145 : List (Nat × Instr × Nat) := [(0, .iconst 3, 1), (1, .iconst 3, 2), (2, .iload_n 0, 3), (3, .imul, 4), (4, .iload_n 1, 5), (5, .iadd, 6), (6, .imul, 7), (7, .iload_n 2, 8), (8, .iadd, 9), (9, .ireturn, 10)]
theorem dec_145_0 : ((il_145.drop 0).take 50).all (fun q => decide (decode prog_14_method_21_code q.1 = .ok (q.2.1, q.2.2 - q.1))) = true := by decide +kernel
-- 146: PipelineSimulatorModel.takesRecord(I)Z
def il_146 : List (Nat × Instr × Nat) := [(0, .aload_n 0, 1), (1, .getfield 114, 4), (4, .iload_n 1, 5), (5, .iaload, 6), (6, .aload_n 0, 7), (7, .getfield 25, 10), (10, .if_icmp .lt 16, 13), (13, .aload_n 0, 14), (14, .getfield 129, 17), (17, .iload_n 1, 18), (18, .iaload, 19), (19, .aload_n 0, 20), (20, .getfield 32, 23), (23, .if_icmp .ge 7, 26), (26, .iconst 1, 27), (27, .goto 4, 30), (30, .iconst 0, 31), (31, .ireturn, 32)]
theorem dec_146_0 : ((il_146.drop 0).take 50).all (fun q => decide (decode prog_14_method_22_code q.1 = .ok (q.2.1, q.2.2 - q.1))) = true := by decide +kernel
-- 147: PipelineSimulatorModel.puts(IIII)V
def il_147 : List (Nat × Instr × Nat) := [(0, .aload_n 0, 1), (1, .getfield 114, 4), (4, .iload_n 1, 5), (5, .iaload, 6), (6, .aload_n 0, 7), (7, .getfield 25, 10), (10, .if_icmp .ne 8, 13), (13, .aload_n 0, 14), (14, .iload_n 1, 15), (15, .invokevirtual 278, 18), (18, .aload_n 0, 19), (19, .getfield 120, 22), (22, .iconst 4, 23), (23, .iload_n 1, 24), (24, .imul, 25), (25, .aload_n 0, 26), (26, .getfield 114, 29), (29, .iload_n 1, 30), (30, .iaload, 31), (31, .iadd, 32), (32, .iload_n 2, 33), (33, .iastore, 34), (34, .aload_n 0, 35), (35, .getfield 123, 38), (38, .iconst 4, 39), (39, .iload_n 1, 40), (40, .imul, 41), (41, .aload_n 0, 42), (42, .getfield 114, 45), (45, .iload_n 1, 46), (46, .iaload, 47), (47, .iadd, 48), (48, .iload_n 3, 49), (49, .iastore, 50), (50, .aload_n 0, 51), (51, .getfield 126, 54), (54, .iconst 4, 55), (55, .iload_n 1, 56), (56, .imul, 57), (57, .aload_n 0, 58), (58, .getfield 114, 61), (61, .iload_n 1, 62), (62, .iaload, 63), (63, .iadd, 64), (64, .iload 4, 66), (66, .iastore, 67), (67, .aload_n 0, 68), (68, .getfield 114, 71), (71, .iload_n 1, 72), (72, .dup2, 73), (73, .iaload, 74), (74, .iconst 1, 75), (75, .iadd, 76), (76, .iastore, 77), (77, .aload_n 0, 78), (78, .getfield 114, 81), (81, .iload_n 1, 82), (82, .iaload, 83), (83, .aload_n 0, 84), (84, .getfield 25, 87), (87, .if_icmp .ne 21, 90), (90, .aload_n 0, 91), (91, .getfield 129, 94), (94, .iload_n 1, 95), (95, .iaload, 96), (96, .aload_n 0, 97), (97, .getfield 32, 100), (100, .if_icmp .ge 8, 103), (103, .aload_n 0, 104), (104, .iload_n 1, 105), (105, .invokevirtual 278, 108), (108, .return_, 109)]
theorem dec_147_0 : ((il_147.drop 0).take 50).all (fun q => decide (decode prog_14_method_25_code q.1 = .ok (q.2.1, q.2.2 - q.1))) = true := by decide +kernel
theorem dec_147_50 : ((il_147.drop 50).take 50).all (fun q => decide (decode prog_14_method_25_code q.1 = .ok (q.2.1, q.2.2 - q.1))) = true := by decide +kernel
-- 148: PipelineSimulatorModel.takesBarrier(I)Z
def il_148 : List (Nat × Instr × Nat) := [(0, .aload_n 0, 1), (1, .getfield 129, 4), (4, .iload_n 1, 5), (5, .iaload, 6), (6, .aload_n 0, 7), (7, .getfield 114, 10), (10, .iload_n 1, 11), (11, .iaload, 12), (12, .ifCond .le 7, 15), (15, .iconst 1, 16), (16, .goto 4, 19), (19, .iconst 0, 20), (20, .iadd, 21), (21, .aload_n 0, 22), (22, .getfield 32, 25), (25, .if_icmp .ge 7, 28), (28, .iconst 1, 29), (29, .goto 4, 32), (32, .iconst 0, 33), (33, .ireturn, 34)]
theorem dec_148_0 : ((il_148.drop 0).take 50).all (fun q => decide (decode prog_14_method_23_code q.1 = .ok (q.2.1, q.2.2 - q.1))) = true := by decide +kernel
-- 149: PipelineSimulatorModel.refusing(II)I
def il_149 : List (Nat × Instr × Nat) := [(0, .iconst 0, 1), (1, .istore_n 3, 2), (2, .iload_n 3, 3), (3, .aload_n 0, 4), (4, .getfield 22, 7), (7, .iload_n 1, 8), (8, .iconst 1, 9), (9, .iadd, 10), (10, .iaload, 11), (11, .if_icmp .ge 24, 14), (14, .aload_n 0, 15), (15, .iload_n 1, 16), (16, .iload_n 2, 17), (17, .iload_n 3, 18), (18, .invokestatic 324, 21), (21, .invokevirtual 341, 24), (24, .ifCond .ne 5, 27), (27, .iload_n 3, 28), (28, .ireturn, 29), (29, .iinc 3 1, 32), (32, .goto (-30), 35), (35, .iconst (-1), 36), (36, .ireturn, 37)]
theorem dec_149_0 : ((il_149.drop 0).take 50).all (fun q => decide (decode prog_14_method_41_code q.1 = .ok (q.2.1, q.2.2 - q.1))) = true := by decide +kernel
-- 150: PipelineSimulatorModel.putsBarrier(I)V
def il_150 : List (Nat × Instr × Nat) := [(0, .aload_n 0, 1), (1, .getfield 114, 4), (4, .iload_n 1, 5), (5, .iaload, 6), (6, .ifCond .le 8, 9), (9, .aload_n 0, 10), (10, .iload_n 1, 11), (11, .invokevirtual 278, 14), (14, .aload_n 0, 15), (15, .getfield 135, 18), (18, .iconst 4, 19), (19, .iload_n 1, 20), (20, .imul, 21), (21, .aload_n 0, 22), (22, .getfield 129, 25), (25, .iload_n 1, 26), (26, .iaload, 27), (27, .iadd, 28), (28, .iconst (-1), 29), (29, .iastore, 30), (30, .aload_n 0, 31), (31, .getfield 129, 34), (34, .iload_n 1, 35), (35, .dup2, 36), (36, .iaload, 37), (37, .iconst 1, 38), (38, .iadd, 39), (39, .iastore, 40), (40, .return_, 41)]
theorem dec_150_0 : ((il_150.drop 0).take 50).all (fun q => decide (decode prog_14_method_26_code q.1 = .ok (q.2.1, q.2.2 - q.1))) = true := by decide +kernel
-- 151: PipelineSimulatorModel.sends(II)Z
def il_151 : List (Nat × Instr × Nat) := [(0, .iload_n 1, 1), (1, .iload_n 2, 2), (2, .invokestatic 288, 5), (5, .istore_n 3, 6), (6, .aload_n 0, 7), (7, .getfield 93, 10), (10, .iload_n 3, 11), (11, .iaload, 12), (12, .ifCond .le 192, 15), (15, .aload_n 0, 16), (16, .getfield 96, 19), (19, .iconst 3, 20), (20, .iload_n 3, 21), (21, .imul, 22), (22, .iaload, 23), (23, .istore 4, 25), (25, .iload_n 1, 26), (26, .iload_n 2, 27), (27, .aload_n 0, 28), (28, .iload_n 1, 29), (29, .iload_n 2, 30), (30, .iload 4, 32), (32, .invokevirtual 344, 35), (35, .invokestatic 324, 38), (38, .istore 5, 40), (40, .aload_n 0, 41), (41, .iload 5, 43), (43, .invokevirtual 347, 46), (46, .ifCond .ne 5, 49), (49, .iconst 0, 50), (50, .ireturn, 51), (51, .aload_n 0, 52), (52, .iload 5, 54), (54, .iload 4, 56), (56, .aload_n 0, 57), (57, .getfield 99, 60), (60, .iconst 3, 61), (61, .iload_n 3, 62), (62, .imul, 63), (63, .iaload, 64), (64, .aload_n 0, 65), (65, .getfield 102, 68), (68, .iconst 3, 69), (69, .iload_n 3, 70), (70, .imul, 71), (71, .iaload, 72), (72, .invokevirtual 350, 75), (75, .aload_n 0, 76), (76, .getfield 84, 79), (79, .iload_n 3, 80), (80, .dup2, 81), (81, .iaload, 82), (82, .aload_n 0, 83), (83, .iload_n 1, 84), (84, .iconst 1, 85), (85, .iadd, 86), (86, .invokevirtual 281, 89), (89, .ifCond .eq 7, 92), (92, .iconst 0, 93), (93, .goto 4, 96), (96, .iconst 1, 97), (97, .iadd, 98), (98, .iastore, 99), (99, .aload_n 0, 100), (100, .getfield 93, 103), (103, .iload_n 3, 104), (104, .dup2, 105), (105, .iaload, 106), (106, .iconst 1, 107), (107, .isub, 108), (108, .iastore, 109), (109, .iconst 0, 110), (110, .istore 6, 112), (112, .iload 6, 114), (114, .aload_n 0, 115), (115, .getfield 93, 118), (118, .iload_n 3, 119), (119, .iaload, 120), (120, .if_icmp .ge 81, 123), (123, .aload_n 0, 124), (124, .getfield 96, 127), (127, .iconst 3, 128), (128, .iload_n 3, 129), (129, .imul, 130), (130, .iload 6, 132), (132, .iadd, 133), (133, .aload_n 0, 134), (134, .getfield 96, 137), (137, .iconst 3, 138), (138, .iload_n 3, 139), (139, .imul, 140), (140, .iload 6, 142), (142, .iadd, 143), (143, .iconst 1, 144), (144, .iadd, 145), (145, .iaload, 146), (146, .iastore, 147), (147, .aload_n 0, 148), (148, .getfield 99, 151), (151, .iconst 3, 152), (152, .iload_n 3, 153), (153, .imul, 154), (154, .iload 6, 156), (156, .iadd, 157), (157, .aload_n 0, 158), (158, .getfield 99, 161), (161, .iconst 3, 162), (162, .iload_n 3, 163), (163, .imul, 164), (164, .iload 6, 166), (166, .iadd, 167), (167, .iconst 1, 168), (168, .iadd, 169), (169, .iaload, 170), (170, .iastore, 171), (171, .aload_n 0, 172), (172, .getfield 102, 175), (175, .iconst 3, 176), (176, .iload_n 3, 177), (177, .imul, 178), (178, .iload 6, 180), (180, .iadd, 181), (181, .aload_n 0, 182), (182, .getfield 102, 185), (185, .iconst 3, 186), (186, .iload_n 3, 187), (187, .imul, 188), (188, .iload 6, 190), (190, .iadd, 191), (191, .iconst 1, 192), (192, .iadd, 193), (193, .iaload, 194), (194, .iastore, 195), (195, .iinc 6 1, 198), (198, .goto (-86), 201), (201, .goto (-195), 204), (204, .aload_n 0, 205), (205, .getfield 111, 208), (208, .iload_n 3, 209), (209, .baload, 210), (210, .ifCond .ne 5, 213), (213, .iconst 1, 214), (214, .ireturn, 215), (215, .aload_n 0, 216), (216, .iload_n 1, 217), (217, .iload_n 2, 218), (218, .invokevirtual 354, 221), (221, .ifCond .lt 5, 224), (224, .iconst 0, 225), (225, .ireturn, 226), (226, .iconst 0, 227), (227, .istore 4, 229), (229, .iload 4, 231), (231, .aload_n 0, 232), (232, .getfield 22, 235), (235, .iload_n 1, 236), (236, .iconst 1, 237), (237, .iadd, 238), (238, .iaload, 239), (239, .if_icmp .ge 20, 242), (242, .aload_n 0, 243), (243, .iload_n 1, 244), (244, .iload_n 2, 245), (245, .iload 4, 247), (247, .invokestatic 324, 250), (250, .invokevirtual 357, 253), (253, .iinc 4 1, 256), (256, .goto (-27), 259), (259, .aload_n 0, 260), (260, .getfield 111, 263), (263, .iload_n 3, 264), (264, .iconst 0, 265), (265, .bastore, 266), (266, .iconst 1, 267), (267, .ireturn, 268)]
theorem dec_151_0 : ((il_151.drop 0).take 50).all (fun q => decide (decode prog_14_method_42_code q.1 = .ok (q.2.1, q.2.2 - q.1))) = true := by decide +kernel
theorem dec_151_50 : ((il_151.drop 50).take 50).all (fun q => decide (decode prog_14_method_42_code q.1 = .ok (q.2.1, q.2.2 - q.1))) = true := by decide +kernel
theorem dec_151_100 : ((il_151.drop 100).take 50).all (fun q => decide (decode prog_14_method_42_code q.1 = .ok (q.2.1, q.2.2 - q.1))) = true := by decide +kernel
theorem dec_151_150 : ((il_151.drop 150).take 50).all (fun q => decide (decode prog_14_method_42_code q.1 = .ok (q.2.1, q.2.2 - q.1))) = true := by decide +kernel
-- 152: PipelineSimulatorModel.emits(IIIII)V
def il_152 : List (Nat × Instr × Nat) := [(0, .iload_n 1, 1), (1, .iload_n 2, 2), (2, .invokestatic 288, 5), (5, .istore 6, 7), (7, .aload_n 0, 8), (8, .getfield 96, 11), (11, .iconst 3, 12), (12, .iload 6, 14), (14, .imul, 15), (15, .aload_n 0, 16), (16, .getfield 93, 19), (19, .iload 6, 21), (21, .iaload, 22), (22, .iadd, 23), (23, .iload_n 3, 24), (24, .iastore, 25), (25, .aload_n 0, 26), (26, .getfield 99, 29), (29, .iconst 3, 30), (30, .iload 6, 32), (32, .imul, 33), (33, .aload_n 0, 34), (34, .getfield 93, 37), (37, .iload 6, 39), (39, .iaload, 40), (40, .iadd, 41), (41, .iload 4, 43), (43, .iastore, 44), (44, .aload_n 0, 45), (45, .getfield 102, 48), (48, .iconst 3, 49), (49, .iload 6, 51), (51, .imul, 52), (52, .aload_n 0, 53), (53, .getfield 93, 56), (56, .iload 6, 58), (58, .iaload, 59), (59, .iadd, 60), (60, .iload 5, 62), (62, .iastore, 63), (63, .aload_n 0, 64), (64, .getfield 93, 67), (67, .iload 6, 69), (69, .dup2, 70), (70, .iaload, 71), (71, .iconst 1, 72), (72, .iadd, 73), (73, .iastore, 74), (74, .aload_n 0, 75), (75, .getfield 47, 78), (78, .iload_n 1, 79), (79, .dup2, 80), (80, .iaload, 81), (81, .iconst 1, 82), (82, .iadd, 83), (83, .iastore, 84), (84, .return_, 85)]
theorem dec_152_0 : ((il_152.drop 0).take 50).all (fun q => decide (decode prog_14_method_30_code q.1 = .ok (q.2.1, q.2.2 - q.1))) = true := by decide +kernel
theorem dec_152_50 : ((il_152.drop 50).take 50).all (fun q => decide (decode prog_14_method_30_code q.1 = .ok (q.2.1, q.2.2 - q.1))) = true := by decide +kernel
-- 153: PipelineSimulatorModel.ready(II)I
def il_153 : List (Nat × Instr × Nat) := [(0, .iload_n 1, 1), (1, .iload_n 2, 2), (2, .invokestatic 288, 5), (5, .istore_n 3, 6), (6, .iconst 0, 7), (7, .istore 4, 9), (9, .iload 4, 11), (11, .aload_n 0, 12), (12, .getfield 22, 15), (15, .iload_n 1, 16), (16, .iconst 1, 17), (17, .isub, 18), (18, .iaload, 19), (19, .if_icmp .ge 63, 22), (22, .aload_n 0, 23), (23, .getfield 108, 26), (26, .iload_n 3, 27), (27, .iaload, 28), (28, .iload 4, 30), (30, .iadd, 31), (31, .aload_n 0, 32), (32, .getfield 22, 35), (35, .iload_n 1, 36), (36, .iconst 1, 37), (37, .isub, 38), (38, .iaload, 39), (39, .irem, 40), (40, .istore 5, 42), (42, .aload_n 0, 43), (43, .getfield 105, 46), (46, .iload_n 3, 47), (47, .iaload, 48), (48, .iload 5, 50), (50, .ishr, 51), (51, .iconst 1, 52), (52, .iand, 53), (53, .ifCond .ne 23, 56), (56, .aload_n 0, 57), (57, .getfield 129, 60), (60, .iload_n 1, 61), (61, .iconst 1, 62), (62, .isub, 63), (63, .iload 5, 65), (65, .iload_n 2, 66), (66, .invokestatic 324, 69), (69, .iaload, 70), (70, .ifCond .le 6, 73), (73, .iload 5, 75), (75, .ireturn, 76), (76, .iinc 4 1, 79), (79, .goto (-70), 82), (82, .iconst (-1), 83), (83, .ireturn, 84)]
theorem dec_153_0 : ((il_153.drop 0).take 50).all (fun q => decide (decode prog_14_method_39_code q.1 = .ok (q.2.1, q.2.2 - q.1))) = true := by decide +kernel
theorem dec_153_50 : ((il_153.drop 50).take 50).all (fun q => decide (decode prog_14_method_39_code q.1 = .ok (q.2.1, q.2.2 - q.1))) = true := by decide +kernel
-- 154: PipelineSimulatorModel.pops(I)V
def il_154 : List (Nat × Instr × Nat) := [(0, .iconst 4, 1), (1, .iload_n 1, 2), (2, .imul, 3), (3, .istore_n 2, 4), (4, .iload_n 2, 5), (5, .iconst 1, 6), (6, .iadd, 7), (7, .iconst 4, 8), (8, .iload_n 1, 9), (9, .imul, 10), (10, .aload_n 0, 11), (11, .getfield 129, 14), (14, .iload_n 1, 15), (15, .iaload, 16), (16, .iadd, 17), (17, .if_icmp .ge 102, 20), (20, .aload_n 0, 21), (21, .getfield 135, 24), (24, .iload_n 2, 25), (25, .aload_n 0, 26), (26, .getfield 135, 29), (29, .iload_n 2, 30), (30, .iconst 1, 31), (31, .iadd, 32), (32, .iaload, 33), (33, .iastore, 34), (34, .iconst 0, 35), (35, .istore_n 3, 36), (36, .iload_n 3, 37), (37, .iconst 4, 38), (38, .if_icmp .ge 75, 41), (41, .aload_n 0, 42), (42, .getfield 138, 45), (45, .iconst 4, 46), (46, .iload_n 2, 47), (47, .imul, 48), (48, .iload_n 3, 49), (49, .iadd, 50), (50, .aload_n 0, 51), (51, .getfield 138, 54), (54, .iconst 4, 55), (55, .iload_n 2, 56), (56, .iconst 1, 57), (57, .iadd, 58), (58, .imul, 59), (59, .iload_n 3, 60), (60, .iadd, 61), (61, .iaload, 62), (62, .iastore, 63), (63, .aload_n 0, 64), (64, .getfield 141, 67), (67, .iconst 4, 68), (68, .iload_n 2, 69), (69, .imul, 70), (70, .iload_n 3, 71), (71, .iadd, 72), (72, .aload_n 0, 73), (73, .getfield 141, 76), (76, .iconst 4, 77), (77, .iload_n 2, 78), (78, .iconst 1, 79), (79, .iadd, 80), (80, .imul, 81), (81, .iload_n 3, 82), (82, .iadd, 83), (83, .iaload, 84), (84, .iastore, 85), (85, .aload_n 0, 86), (86, .getfield 144, 89), (89, .iconst 4, 90), (90, .iload_n 2, 91), (91, .imul, 92), (92, .iload_n 3, 93), (93, .iadd, 94), (94, .aload_n 0, 95), (95, .getfield 144, 98), (98, .iconst 4, 99), (99, .iload_n 2, 100), (100, .iconst 1, 101), (101, .iadd, 102), (102, .imul, 103), (103, .iload_n 3, 104), (104, .iadd, 105), (105, .iaload, 106), (106, .iastore, 107), (107, .iinc 3 1, 110), (110, .goto (-74), 113), (113, .iinc 2 1, 116), (116, .goto (-112), 119), (119, .aload_n 0, 120), (120, .getfield 129, 123), (123, .iload_n 1, 124), (124, .dup2, 125), (125, .iaload, 126), (126, .iconst 1, 127), (127, .isub, 128), (128, .iastore, 129), (129, .aload_n 0, 130), (130, .getfield 132, 133), (133, .iload_n 1, 134), (134, .iconst 0, 135), (135, .iastore, 136), (136, .return_, 137)]
theorem dec_154_0 : ((il_154.drop 0).take 50).all (fun q => decide (decode prog_14_method_27_code q.1 = .ok (q.2.1, q.2.2 - q.1))) = true := by decide +kernel
theorem dec_154_50 : ((il_154.drop 50).take 50).all (fun q => decide (decode prog_14_method_27_code q.1 = .ok (q.2.1, q.2.2 - q.1))) = true := by decide +kernel
theorem dec_154_100 : ((il_154.drop 100).take 50).all (fun q => decide (decode prog_14_method_27_code q.1 = .ok (q.2.1, q.2.2 - q.1))) = true := by decide +kernel
-- 155: PipelineSimulatorModel.saves(II)V
def il_155 : List (Nat × Instr × Nat) := [(0, .iconst 0, 1), (1, .istore_n 3, 2), (2, .iload_n 3, 3), (3, .bipush 16, 5), (5, .if_icmp .ge 80, 8), (8, .aload_n 0, 9), (9, .iload_n 1, 10), (10, .invokevirtual 281, 13), (13, .ifCond .eq 72, 16), (16, .bipush 16, 18), (18, .iload_n 1, 19), (19, .imul, 20), (20, .iload_n 3, 21), (21, .iadd, 22), (22, .istore 4, 24), (24, .aload_n 0, 25), (25, .iload_n 1, 26), (26, .iload_n 3, 27), (27, .invokevirtual 285, 30), (30, .iload_n 2, 31), (31, .if_icmp .eq 6, 34), (34, .goto 45, 37), (37, .aload_n 0, 38), (38, .getfield 60, 41), (41, .iload 4, 43), (43, .aload_n 0, 44), (44, .getfield 56, 47), (47, .iload 4, 49), (49, .baload, 50), (50, .bastore, 51), (51, .aload_n 0, 52), (52, .getfield 69, 55), (55, .iload 4, 57), (57, .aload_n 0, 58), (58, .getfield 66, 61), (61, .iload 4, 63), (63, .iaload, 64), (64, .iastore, 65), (65, .aload_n 0, 66), (66, .getfield 78, 69), (69, .iload 4, 71), (71, .aload_n 0, 72), (72, .getfield 75, 75), (75, .iload 4, 77), (77, .iaload, 78), (78, .iastore, 79), (79, .iinc 3 1, 82), (82, .goto (-80), 85), (85, .aload_n 0, 86), (86, .getfield 87, 89), (89, .iload_n 1, 90), (90, .iload_n 2, 91), (91, .invokestatic 288, 94), (94, .aload_n 0, 95), (95, .getfield 84, 98), (98, .iload_n 1, 99), (99, .iload_n 2, 100), (100, .invokestatic 288, 103), (103, .iaload, 104), (104, .iastore, 105), (105, .return_, 106)]
theorem dec_155_0 : ((il_155.drop 0).take 50).all (fun q => decide (decode prog_14_method_36_code q.1 = .ok (q.2.1, q.2.2 - q.1))) = true := by decide +kernel
theorem dec_155_50 : ((il_155.drop 50).take 50).all (fun q => decide (decode prog_14_method_36_code q.1 = .ok (q.2.1, q.2.2 - q.1))) = true := by decide +kernel
-- 156: PipelineSimulatorModel.completes()V
def il_156 : List (Nat × Instr × Nat) := [(0, .iconst 0, 1), (1, .istore_n 1, 2), (2, .iload_n 1, 3), (3, .bipush 96, 5), (5, .if_icmp .ge 45, 8), (8, .aload_n 0, 9), (9, .getfield 63, 12), (12, .iload_n 1, 13), (13, .aload_n 0, 14), (14, .getfield 60, 17), (17, .iload_n 1, 18), (18, .baload, 19), (19, .bastore, 20), (20, .aload_n 0, 21), (21, .getfield 72, 24), (24, .iload_n 1, 25), (25, .aload_n 0, 26), (26, .getfield 69, 29), (29, .iload_n 1, 30), (30, .iaload, 31), (31, .iastore, 32), (32, .aload_n 0, 33), (33, .getfield 81, 36), (36, .iload_n 1, 37), (37, .aload_n 0, 38), (38, .getfield 78, 41), (41, .iload_n 1, 42), (42, .iaload, 43), (43, .iastore, 44), (44, .iinc 1 1, 47), (47, .goto (-45), 50), (50, .iconst 0, 51), (51, .istore_n 1, 52), (52, .iload_n 1, 53), (53, .bipush 18, 55), (55, .if_icmp .ge 21, 58), (58, .aload_n 0, 59), (59, .getfield 90, 62), (62, .iload_n 1, 63), (63, .aload_n 0, 64), (64, .getfield 87, 67), (67, .iload_n 1, 68), (68, .iaload, 69), (69, .iastore, 70), (70, .iinc 1 1, 73), (73, .goto (-21), 76), (76, .aload_n 0, 77), (77, .aload_n 0, 78), (78, .getfield 312, 81), (81, .putfield 262, 84), (84, .aload_n 0, 85), (85, .aload_n 0, 86), (86, .getfield 268, 89), (89, .putfield 253, 92), (92, .aload_n 0, 93), (93, .iconst 0, 94), (94, .putfield 268, 97), (97, .return_, 98)]
theorem dec_156_0 : ((il_156.drop 0).take 50).all (fun q => decide (decode prog_14_method_37_code q.1 = .ok (q.2.1, q.2.2 - q.1))) = true := by decide +kernel
theorem dec_156_50 : ((il_156.drop 50).take 50).all (fun q => decide (decode prog_14_method_37_code q.1 = .ok (q.2.1, q.2.2 - q.1))) = true := by decide +kernel
-- 157: PipelineSimulatorModel.barrier(III)V
def il_157 : List (Nat × Instr × Nat) := [(0, .iload_n 1, 1), (1, .iload_n 2, 2), (2, .invokestatic 288, 5), (5, .istore 4, 7), (7, .aload_n 0, 8), (8, .getfield 105, 11), (11, .iload 4, 13), (13, .dup2, 14), (14, .iaload, 15), (15, .iconst 1, 16), (16, .iload_n 3, 17), (17, .ishl, 18), (18, .ior, 19), (19, .iastore, 20), (20, .aload_n 0, 21), (21, .getfield 105, 24), (24, .iload 4, 26), (26, .iaload, 27), (27, .iconst 1, 28), (28, .aload_n 0, 29), (29, .getfield 22, 32), (32, .iload_n 1, 33), (33, .iconst 1, 34), (34, .isub, 35), (35, .iaload, 36), (36, .ishl, 37), (37, .iconst 1, 38), (38, .isub, 39), (39, .if_icmp .eq 4, 42), (42, .return_, 43), (43, .aload_n 0, 44), (44, .getfield 105, 47), (47, .iload 4, 49), (49, .iconst 0, 50), (50, .iastore, 51), (51, .aload_n 0, 52), (52, .iload_n 1, 53), (53, .iload_n 2, 54), (54, .invokevirtual 315, 57), (57, .iload_n 1, 58), (58, .aload_n 0, 59), (59, .invokevirtual 199, 62), (62, .if_icmp .ge 12, 65), (65, .aload_n 0, 66), (66, .getfield 111, 69), (69, .iload 4, 71), (71, .iconst 1, 72), (72, .bastore, 73), (73, .return_, 74), (74, .aload_n 0, 75), (75, .dup, 76), (76, .getfield 318, 79), (79, .iconst 1, 80), (80, .iadd, 81), (81, .putfield 318, 84), (84, .aload_n 0, 85), (85, .getfield 318, 88), (88, .aload_n 0, 89), (89, .getfield 22, 92), (92, .iload_n 1, 93), (93, .iaload, 94), (94, .if_icmp .ne 7, 97), (97, .aload_n 0, 98), (98, .invokevirtual 321, 101), (101, .return_, 102)]
theorem dec_157_0 : ((il_157.drop 0).take 50).all (fun q => decide (decode prog_14_method_38_code q.1 = .ok (q.2.1, q.2.2 - q.1))) = true := by decide +kernel
theorem dec_157_50 : ((il_157.drop 50).take 50).all (fun q => decide (decode prog_14_method_38_code q.1 = .ok (q.2.1, q.2.2 - q.1))) = true := by decide +kernel
-- 158: PipelineSimulatorModel.gives(II)V
def il_158 : List (Nat × Instr × Nat) := [(0, .aload_n 0, 1), (1, .getfield 163, 4), (4, .aload_n 0, 5), (5, .getfield 291, 8), (8, .iload_n 1, 9), (9, .iastore, 10), (10, .aload_n 0, 11), (11, .getfield 166, 14), (14, .aload_n 0, 15), (15, .getfield 291, 18), (18, .iload_n 2, 19), (19, .iastore, 20), (20, .aload_n 0, 21), (21, .dup, 22), (22, .getfield 291, 25), (25, .iconst 1, 26), (26, .iadd, 27), (27, .putfield 291, 30), (30, .return_, 31)]
theorem dec_158_0 : ((il_158.drop 0).take 50).all (fun q => decide (decode prog_14_method_31_code q.1 = .ok (q.2.1, q.2.2 - q.1))) = true := by decide +kernel
-- 159: PipelineSimulatorModel.rest(I)I
def il_159 : List (Nat × Instr × Nat) := [(0, .iload_n 0, 1), (1, .bipush 16, 3), (3, .irem, 4), (4, .istore_n 1, 5), (5, .iload_n 1, 6), (6, .ifCond .ge 10, 9), (9, .iload_n 1, 10), (10, .bipush 16, 12), (12, .iadd, 13), (13, .goto 4, 16), (16, .iload_n 1, 17), (17, .ireturn, 18)]
theorem dec_159_0 : ((il_159.drop 0).take 50).all (fun q => decide (decode prog_14_method_32_code q.1 = .ok (q.2.1, q.2.2 - q.1))) = true := by decide +kernel
-- 160: PipelineSimulatorModel.processes(III[Z[I[I)V
def il_160 : List (Nat × Instr × Nat) := [(0, .aload_n 0, 1), (1, .iconst 0, 2), (2, .putfield 291, 5), (5, .bipush 16, 7), (7, .iload_n 1, 8), (8, .imul, 9), (9, .iload_n 2, 10), (10, .iadd, 11), (11, .istore 7, 13), (13, .aload 4, 15), (15, .iload 7, 17), (17, .baload, 18), (18, .istore 8, 20), (20, .aload_n 0, 21), (21, .getfield 13, 24), (24, .iload_n 1, 25), (25, .iaload, 26), (26, .tableswitch 249 0 6 #[42, 63, 125, 149, 249, 179, 214], 68), (68, .aload_n 0, 69), (69, .iload_n 2, 70), (70, .iload_n 3, 71), (71, .aload_n 0, 72), (72, .getfield 16, 75), (75, .iload_n 1, 76), (76, .iaload, 77), (77, .imul, 78), (78, .aload_n 0, 79), (79, .getfield 19, 82), (82, .iload_n 1, 83), (83, .iaload, 84), (84, .iadd, 85), (85, .invokevirtual 294, 88), (88, .return_, 89), (89, .aload_n 0, 90), (90, .getfield 16, 93), (93, .iload_n 1, 94), (94, .iaload, 95), (95, .ifCond .ne 16, 98), (98, .iload_n 3, 99), (99, .aload_n 0, 100), (100, .getfield 19, 103), (103, .iload_n 1, 104), (104, .iaload, 105), (105, .if_icmp .ge 45, 108), (108, .goto 36, 111), (111, .aload_n 0, 112), (112, .getfield 16, 115), (115, .iload_n 1, 116), (116, .iaload, 117), (117, .iconst 1, 118), (118, .if_icmp .ne 16, 121), (121, .iload_n 3, 122), (122, .aload_n 0, 123), (123, .getfield 19, 126), (126, .iload_n 1, 127), (127, .iaload, 128), (128, .if_icmp .ne 22, 131), (131, .goto 13, 134), (134, .iload_n 3, 135), (135, .aload_n 0, 136), (136, .getfield 19, 139), (139, .iload_n 1, 140), (140, .iaload, 141), (141, .if_icmp .le 9, 144), (144, .aload_n 0, 145), (145, .iload_n 2, 146), (146, .iload_n 3, 147), (147, .invokevirtual 294, 150), (150, .return_, 151), (151, .aload_n 0, 152), (152, .iload_n 2, 153), (153, .aload_n 0, 154), (154, .getfield 16, 157), (157, .iload_n 1, 158), (158, .iaload, 159), (159, .imul, 160), (160, .aload_n 0, 161), (161, .getfield 19, 164), (164, .iload_n 1, 165), (165, .iaload, 166), (166, .iadd, 167), (167, .invokestatic 298, 170), (170, .iload_n 3, 171), (171, .invokevirtual 294, 174), (174, .return_, 175), (175, .iconst 0, 176), (176, .istore 9, 178), (178, .iload 9, 180), (180, .aload_n 0, 181), (181, .getfield 16, 184), (184, .iload_n 1, 185), (185, .iaload, 186), (186, .if_icmp .ge 18, 189), (189, .aload_n 0, 190), (190, .iload_n 2, 191), (191, .iload_n 3, 192), (192, .iload 9, 194), (194, .iadd, 195), (195, .invokevirtual 294, 198), (198, .iinc 9 1, 201), (201, .goto (-23), 204), (204, .return_, 205), (205, .iload 8, 207), (207, .ifCond .eq 12, 210), (210, .aload 5, 212), (212, .iload 7, 214), (214, .iaload, 215), (215, .iload_n 3, 216), (216, .if_icmp .eq 9, 219), (219, .aload_n 0, 220), (220, .iload_n 2, 221), (221, .iload_n 3, 222), (222, .invokevirtual 294, 225), (225, .aload 5, 227), (227, .iload 7, 229), (229, .iload_n 3, 230), (230, .iastore, 231), (231, .aload 6, 233), (233, .iload 7, 235), (235, .iconst 0, 236), (236, .iastore, 237), (237, .goto 121, 240), (240, .iload 8, 242), (242, .ifCond .eq 12, 245), (245, .iload_n 3, 246), (246, .aload 5, 248), (248, .iload 7, 250), (250, .iaload, 251), (251, .if_icmp .le 15, 254), (254, .aload_n 0, 255), (255, .iload_n 2, 256), (256, .iload_n 3, 257), (257, .invokevirtual 294, 260), (260, .aload 5, 262), (262, .iload 7, 264), (264, .iload_n 3, 265), (265, .iastore, 266), (266, .aload 6, 268), (268, .iload 7, 270), (270, .iconst 0, 271), (271, .iastore, 272), (272, .goto 86, 275), (275, .aload 5, 277), (277, .iload 7, 279), (279, .iload 8, 281), (281, .ifCond .eq 13, 284), (284, .aload 5, 286), (286, .iload 7, 288), (288, .iaload, 289), (289, .iload_n 3, 290), (290, .iadd, 291), (291, .goto 4, 294), (294, .iload_n 3, 295), (295, .iastore, 296), (296, .aload 6, 298), (298, .iload 7, 300), (300, .iload 8, 302), (302, .ifCond .eq 13, 305), (305, .aload 6, 307), (307, .iload 7, 309), (309, .iaload, 310), (310, .iconst 1, 311), (311, .iadd, 312), (312, .goto 4, 315), (315, .iconst 1, 316), (316, .iastore, 317), (317, .aload_n 0, 318), (318, .getfield 13, 321), (321, .iload_n 1, 322), (322, .iaload, 323), (323, .iconst 4, 324), (324, .if_icmp .ne 34, 327), (327, .aload 6, 329), (329, .iload 7, 331), (331, .iaload, 332), (332, .aload_n 0, 333), (333, .getfield 16, 336), (336, .iload_n 1, 337), (337, .iaload, 338), (338, .if_icmp .ne 20, 341), (341, .aload_n 0, 342), (342, .iload_n 2, 343), (343, .aload 5, 345), (345, .iload 7, 347), (347, .iaload, 348), (348, .invokevirtual 294, 351), (351, .aload 4, 353), (353, .iload 7, 355), (355, .iconst 0, 356), (356, .bastore, 357), (357, .return_, 358), (358, .aload 4, 360), (360, .iload 7, 362), (362, .iconst 1, 363), (363, .bastore, 364), (364, .return_, 365)]
theorem dec_160_0 : ((il_160.drop 0).take 50).all (fun q => decide (decode prog_14_method_33_code q.1 = .ok (q.2.1, q.2.2 - q.1))) = true := by decide +kernel
theorem dec_160_50 : ((il_160.drop 50).take 50).all (fun q => decide (decode prog_14_method_33_code q.1 = .ok (q.2.1, q.2.2 - q.1))) = true := by decide +kernel
theorem dec_160_100 : ((il_160.drop 100).take 50).all (fun q => decide (decode prog_14_method_33_code q.1 = .ok (q.2.1, q.2.2 - q.1))) = true := by decide +kernel
theorem dec_160_150 : ((il_160.drop 150).take 50).all (fun q => decide (decode prog_14_method_33_code q.1 = .ok (q.2.1, q.2.2 - q.1))) = true := by decide +kernel
-- 161: PipelineSimulatorModel.takesIn(IIIII)V
def il_161 : List (Nat × Instr × Nat) := [(0, .aload_n 0, 1), (1, .getfield 44, 4), (4, .iload_n 1, 5), (5, .dup2, 6), (6, .iaload, 7), (7, .iconst 1, 8), (8, .iadd, 9), (9, .iastore, 10), (10, .aload_n 0, 11), (11, .iload_n 1, 12), (12, .iload_n 3, 13), (13, .iload 4, 15), (15, .aload_n 0, 16), (16, .getfield 56, 19), (19, .aload_n 0, 20), (20, .getfield 66, 23), (23, .aload_n 0, 24), (24, .getfield 75, 27), (27, .invokevirtual 301, 30), (30, .iconst 0, 31), (31, .istore 6, 33), (33, .iload 6, 35), (35, .aload_n 0, 36), (36, .getfield 291, 39), (39, .if_icmp .ge 31, 42), (42, .aload_n 0, 43), (43, .iload_n 1, 44), (44, .iload_n 2, 45), (45, .aload_n 0, 46), (46, .getfield 163, 49), (49, .iload 6, 51), (51, .iaload, 52), (52, .aload_n 0, 53), (53, .getfield 166, 56), (56, .iload 6, 58), (58, .iaload, 59), (59, .iload 5, 61), (61, .invokevirtual 305, 64), (64, .iinc 6 1, 67), (67, .goto (-34), 70), (70, .iload_n 1, 71), (71, .aload_n 0, 72), (72, .invokevirtual 199, 75), (75, .if_icmp .ge 4, 78), (78, .return_, 79), (79, .aload_n 0, 80), (80, .getfield 148, 83), (83, .aload_n 0, 84), (84, .getfield 243, 87), (87, .iconst 1, 88), (88, .isub, 89), (89, .iload 5, 91), (91, .isub, 92), (92, .dup2, 93), (93, .iaload, 94), (94, .iconst 1, 95), (95, .iadd, 96), (96, .iastore, 97), (97, .aload_n 0, 98), (98, .dup, 99), (99, .getfield 246, 102), (102, .iconst 1, 103), (103, .iadd, 104), (104, .putfield 246, 107), (107, .aload_n 0, 108), (108, .dup, 109), (109, .getfield 249, 112), (112, .aload_n 0, 113), (113, .getfield 243, 116), (116, .iconst 1, 117), (117, .isub, 118), (118, .iload 5, 120), (120, .isub, 121), (121, .i2l, 122), (122, .ladd, 123), (123, .putfield 249, 126), (126, .return_, 127)]
theorem dec_161_0 : ((il_161.drop 0).take 50).all (fun q => decide (decode prog_14_method_34_code q.1 = .ok (q.2.1, q.2.2 - q.1))) = true := by decide +kernel
theorem dec_161_50 : ((il_161.drop 50).take 50).all (fun q => decide (decode prog_14_method_34_code q.1 = .ok (q.2.1, q.2.2 - q.1))) = true := by decide +kernel
-- 162: PipelineSimulatorModel.takes(II)Z
def il_162 : List (Nat × Instr × Nat) := [(0, .iload_n 1, 1), (1, .ifCond .ne 68, 4), (4, .aload_n 0, 5), (5, .getfield 271, 8), (8, .aload_n 0, 9), (9, .getfield 275, 12), (12, .if_icmp .ne 5, 15), (15, .iconst 0, 16), (16, .ireturn, 17), (17, .aload_n 0, 18), (18, .getfield 44, 21), (21, .iconst 0, 22), (22, .dup2, 23), (23, .iaload, 24), (24, .iconst 1, 25), (25, .iadd, 26), (26, .iastore, 27), (27, .aload_n 0, 28), (28, .iconst 0, 29), (29, .iconst 0, 30), (30, .aload_n 0, 31), (31, .getfield 38, 34), (34, .aload_n 0, 35), (35, .getfield 271, 38), (38, .iaload, 39), (39, .aload_n 0, 40), (40, .getfield 41, 43), (43, .aload_n 0, 44), (44, .getfield 271, 47), (47, .iaload, 48), (48, .aload_n 0, 49), (49, .getfield 243, 52), (52, .iconst 1, 53), (53, .isub, 54), (54, .invokevirtual 305, 57), (57, .aload_n 0, 58), (58, .dup, 59), (59, .getfield 271, 62), (62, .iconst 1, 63), (63, .iadd, 64), (64, .putfield 271, 67), (67, .iconst 1, 68), (68, .ireturn, 69), (69, .aload_n 0, 70), (70, .iload_n 1, 71), (71, .iload_n 2, 72), (72, .invokevirtual 328, 75), (75, .istore_n 3, 76), (76, .iload_n 3, 77), (77, .ifCond .ge 5, 80), (80, .iconst 0, 81), (81, .ireturn, 82), (82, .aload_n 0, 83), (83, .getfield 108, 86), (86, .iload_n 1, 87), (87, .iload_n 2, 88), (88, .invokestatic 288, 91), (91, .iload_n 3, 92), (92, .iconst 1, 93), (93, .iadd, 94), (94, .aload_n 0, 95), (95, .getfield 22, 98), (98, .iload_n 1, 99), (99, .iconst 1, 100), (100, .isub, 101), (101, .iaload, 102), (102, .irem, 103), (103, .iastore, 104), (104, .iload_n 1, 105), (105, .iconst 1, 106), (106, .isub, 107), (107, .iload_n 3, 108), (108, .iload_n 2, 109), (109, .invokestatic 324, 112), (112, .istore 4, 114), (114, .aload_n 0, 115), (115, .getfield 135, 118), (118, .iconst 4, 119), (119, .iload 4, 121), (121, .imul, 122), (122, .iaload, 123), (123, .ifCond .ge 18, 126), (126, .aload_n 0, 127), (127, .iload 4, 129), (129, .invokevirtual 331, 132), (132, .aload_n 0, 133), (133, .iload_n 1, 134), (134, .iload_n 2, 135), (135, .iload_n 3, 136), (136, .invokevirtual 334, 139), (139, .iconst 1, 140), (140, .ireturn, 141), (141, .aload_n 0, 142), (142, .getfield 138, 145), (145, .bipush 16, 147), (147, .iload 4, 149), (149, .imul, 150), (150, .aload_n 0, 151), (151, .getfield 132, 154), (154, .iload 4, 156), (156, .iaload, 157), (157, .iadd, 158), (158, .iaload, 159), (159, .istore 5, 161), (161, .aload_n 0, 162), (162, .getfield 141, 165), (165, .bipush 16, 167), (167, .iload 4, 169), (169, .imul, 170), (170, .aload_n 0, 171), (171, .getfield 132, 174), (174, .iload 4, 176), (176, .iaload, 177), (177, .iadd, 178), (178, .iaload, 179), (179, .istore 6, 181), (181, .aload_n 0, 182), (182, .getfield 144, 185), (185, .bipush 16, 187), (187, .iload 4, 189), (189, .imul, 190), (190, .aload_n 0, 191), (191, .getfield 132, 194), (194, .iload 4, 196), (196, .iaload, 197), (197, .iadd, 198), (198, .iaload, 199), (199, .istore 7, 201), (201, .aload_n 0, 202), (202, .getfield 132, 205), (205, .iload 4, 207), (207, .dup2, 208), (208, .iaload, 209), (209, .iconst 1, 210), (210, .iadd, 211), (211, .iastore, 212), (212, .aload_n 0, 213), (213, .getfield 132, 216), (216, .iload 4, 218), (218, .iaload, 219), (219, .aload_n 0, 220), (220, .getfield 135, 223), (223, .iconst 4, 224), (224, .iload 4, 226), (226, .imul, 227), (227, .iaload, 228), (228, .if_icmp .ne 9, 231), (231, .aload_n 0, 232), (232, .iload 4, 234), (234, .invokevirtual 331, 237), (237, .aload_n 0, 238), (238, .iload_n 1, 239), (239, .iload_n 2, 240), (240, .iload 5, 242), (242, .iload 6, 244), (244, .iload 7, 246), (246, .invokevirtual 338, 249), (249, .iconst 1, 250), (250, .ireturn, 251)]
theorem dec_162_0 : ((il_162.drop 0).take 50).all (fun q => decide (decode prog_14_method_40_code q.1 = .ok (q.2.1, q.2.2 - q.1))) = true := by decide +kernel
theorem dec_162_50 : ((il_162.drop 50).take 50).all (fun q => decide (decode prog_14_method_40_code q.1 = .ok (q.2.1, q.2.2 - q.1))) = true := by decide +kernel
theorem dec_162_100 : ((il_162.drop 100).take 50).all (fun q => decide (decode prog_14_method_40_code q.1 = .ok (q.2.1, q.2.2 - q.1))) = true := by decide +kernel
theorem dec_162_150 : ((il_162.drop 150).take 50).all (fun q => decide (decode prog_14_method_40_code q.1 = .ok (q.2.1, q.2.2 - q.1))) = true := by decide +kernel
-- 163: PipelineSimulatorModel.works(II)V
def il_163 : List (Nat × Instr × Nat) := [(0, .aload_n 0, 1), (1, .getfield 35, 4), (4, .istore_n 3, 5), (5, .iconst 1, 6), (6, .istore 4, 8), (8, .iload 4, 10), (10, .ifCond .eq 83, 13), (13, .iload_n 1, 14), (14, .aload_n 0, 15), (15, .invokevirtual 199, 18), (18, .if_icmp .eq 12, 21), (21, .aload_n 0, 22), (22, .iload_n 1, 23), (23, .iload_n 2, 24), (24, .invokevirtual 360, 27), (27, .ifCond .eq 7, 30), (30, .iconst 1, 31), (31, .goto 4, 34), (34, .iconst 0, 35), (35, .istore 4, 37), (37, .iload 4, 39), (39, .ifCond .ne 16, 42), (42, .aload_n 0, 43), (43, .getfield 50, 46), (46, .iload_n 1, 47), (47, .dup2, 48), (48, .iaload, 49), (49, .iconst 1, 50), (50, .iadd, 51), (51, .iastore, 52), (52, .goto 35, 55), (55, .iload_n 3, 56), (56, .ifCond .ne 9, 59), (59, .iconst 0, 60), (60, .istore 4, 62), (62, .goto 25, 65), (65, .aload_n 0, 66), (66, .iload_n 1, 67), (67, .iload_n 2, 68), (68, .invokevirtual 364, 71), (71, .ifCond .ne 16, 74), (74, .aload_n 0, 75), (75, .getfield 53, 78), (78, .iload_n 1, 79), (79, .dup2, 80), (80, .iaload, 81), (81, .iconst 1, 82), (82, .iadd, 83), (83, .iastore, 84), (84, .iconst 0, 85), (85, .istore 4, 87), (87, .iinc 3 (-1), 90), (90, .goto (-82), 93), (93, .return_, 94)]
theorem dec_163_0 : ((il_163.drop 0).take 50).all (fun q => decide (decode prog_14_method_43_code q.1 = .ok (q.2.1, q.2.2 - q.1))) = true := by decide +kernel
theorem dec_163_50 : ((il_163.drop 50).take 50).all (fun q => decide (decode prog_14_method_43_code q.1 = .ok (q.2.1, q.2.2 - q.1))) = true := by decide +kernel
-- 164: PipelineSimulatorModel.ticks()V
def il_164 : List (Nat × Instr × Nat) := [(0, .aload_n 0, 1), (1, .dup, 2), (2, .getfield 243, 5), (5, .iconst 1, 6), (6, .iadd, 7), (7, .putfield 243, 10), (10, .aload_n 0, 11), (11, .iconst 1, 12), (12, .putfield 259, 15), (15, .iconst 0, 16), (16, .istore_n 1, 17), (17, .iload_n 1, 18), (18, .bipush 54, 20), (20, .if_icmp .ge 62, 23), (23, .aload_n 0, 24), (24, .getfield 114, 27), (27, .iload_n 1, 28), (28, .iaload, 29), (29, .ifCond .ne 6, 32), (32, .goto 44, 35), (35, .aload_n 0, 36), (36, .getfield 117, 39), (39, .iload_n 1, 40), (40, .dup2, 41), (41, .iaload, 42), (42, .iconst 1, 43), (43, .iadd, 44), (44, .iastore, 45), (45, .aload_n 0, 46), (46, .getfield 117, 49), (49, .iload_n 1, 50), (50, .iaload, 51), (51, .aload_n 0, 52), (52, .getfield 29, 55), (55, .if_icmp .lt 21, 58), (58, .aload_n 0, 59), (59, .getfield 129, 62), (62, .iload_n 1, 63), (63, .iaload, 64), (64, .aload_n 0, 65), (65, .getfield 32, 68), (68, .if_icmp .ge 8, 71), (71, .aload_n 0, 72), (72, .iload_n 1, 73), (73, .invokevirtual 278, 76), (76, .iinc 1 1, 79), (79, .goto (-62), 82), (82, .aload_n 0, 83), (83, .invokevirtual 199, 86), (86, .istore_n 1, 87), (87, .iload_n 1, 88), (88, .ifCond .lt 33, 91), (91, .iconst 0, 92), (92, .istore_n 2, 93), (93, .iload_n 2, 94), (94, .aload_n 0, 95), (95, .getfield 22, 98), (98, .iload_n 1, 99), (99, .iaload, 100), (100, .if_icmp .ge 15, 103), (103, .aload_n 0, 104), (104, .iload_n 1, 105), (105, .iload_n 2, 106), (106, .invokevirtual 367, 109), (109, .iinc 2 1, 112), (112, .goto (-19), 115), (115, .iinc 1 (-1), 118), (118, .goto (-31), 121), (121, .return_, 122)]
theorem dec_164_0 : ((il_164.drop 0).take 50).all (fun q => decide (decode prog_14_method_45_code q.1 = .ok (q.2.1, q.2.2 - q.1))) = true := by decide +kernel
theorem dec_164_50 : ((il_164.drop 50).take 50).all (fun q => decide (decode prog_14_method_45_code q.1 = .ok (q.2.1, q.2.2 - q.1))) = true := by decide +kernel
-- 165: PipelineSimulatorModel.tick(I)I
def il_165 : List (Nat × Instr × Nat) := [(0, .iload_n 1, 1), (1, .iconst 1, 2), (2, .sipush 200, 5), (5, .invokestatic 203, 8), (8, .ifCond .ne 6, 11), (11, .ldc 207, 13), (13, .ireturn, 14), (14, .iconst 0, 15), (15, .istore_n 2, 16), (16, .iload_n 2, 17), (17, .iload_n 1, 18), (18, .if_icmp .ge 20, 21), (21, .aload_n 0, 22), (22, .invokevirtual 370, 25), (25, .ifCond .ne 13, 28), (28, .aload_n 0, 29), (29, .invokevirtual 374, 32), (32, .iinc 2 1, 35), (35, .goto (-19), 38), (38, .iload_n 2, 39), (39, .ireturn, 40)]
theorem dec_165_0 : ((il_165.drop 0).take 50).all (fun q => decide (decode prog_14_method_46_code q.1 = .ok (q.2.1, q.2.2 - q.1))) = true := by decide +kernel
-- 166: PipelineSimulator.isQuiet()I
def il_166 : List (Nat × Instr × Nat) := [(0, .aload_n 0, 1), (1, .getfield 31, 4), (4, .invokevirtual 114, 7), (7, .ifCond .eq 7, 10), (10, .iconst 1, 11), (11, .goto 4, 14), (14, .iconst 0, 15), (15, .ireturn, 16)]
theorem dec_166_0 : ((il_166.drop 0).take 50).all (fun q => decide (decode prog_1_method_7_code q.1 = .ok (q.2.1, q.2.2 - q.1))) = true := by decide +kernel
-- 167: PipelineSimulatorModel.isQuiet()I
def il_167 : List (Nat × Instr × Nat) := [(0, .aload_n 0, 1), (1, .invokevirtual 370, 4), (4, .ifCond .eq 7, 7), (7, .iconst 1, 8), (8, .goto 4, 11), (11, .iconst 0, 12), (12, .ireturn, 13)]
theorem dec_167_0 : ((il_167.drop 0).take 50).all (fun q => decide (decode prog_14_method_47_code q.1 = .ok (q.2.1, q.2.2 - q.1))) = true := by decide +kernel
-- 168: PipelineSimulator$Simulation.beginCheckpoint()V
def il_168 : List (Nat × Instr × Nat) := [(0, .aload_n 0, 1), (1, .iconst 1, 2), (2, .putfield 106, 5), (5, .aload_n 0, 6), (6, .aload_n 0, 7), (7, .getfield 100, 10), (10, .iconst 1, 11), (11, .iadd, 12), (12, .putfield 126, 15), (15, .aload_n 0, 16), (16, .aload_n 0, 17), (17, .aload_n 0, 18), (18, .getfield 50, 21), (21, .iconst 1, 22), (22, .iadd, 23), (23, .invokevirtual 129, 26), (26, .putfield 132, 29), (29, .aload_n 0, 30), (30, .aload_n 0, 31), (31, .getfield 135, 34), (34, .putfield 138, 37), (37, .aload_n 0, 38), (38, .iconst 0, 39), (39, .iconst 0, 40), (40, .invokevirtual 141, 43), (43, .astore_n 1, 44), (44, .aload_n 1, 45), (45, .ifnull 16, 48), (48, .aload_n 1, 49), (49, .aload_n 1, 50), (50, .getfield 145, 53), (53, .putfield 150, 56), (56, .aload_n 1, 57), (57, .iconst 1, 58), (58, .putfield 153, 61), (61, .return_, 62)]
theorem dec_168_0 : ((il_168.drop 0).take 50).all (fun q => decide (decode prog_12_method_10_code q.1 = .ok (q.2.1, q.2.2 - q.1))) = true := by decide +kernel
-- 169: PipelineSimulator.checkpoint()I
def il_169 : List (Nat × Instr × Nat) := [(0, .aload_n 0, 1), (1, .getfield 31, 4), (4, .getfield 120, 7), (7, .ifCond .eq 6, 10), (10, .ldc 123, 12), (12, .ireturn, 13), (13, .aload_n 0, 14), (14, .getfield 31, 17), (17, .invokevirtual 124, 20), (20, .aload_n 0, 21), (21, .getfield 31, 24), (24, .getfield 120, 27), (27, .ireturn, 28)]
theorem dec_169_0 : ((il_169.drop 0).take 50).all (fun q => decide (decode prog_1_method_8_code q.1 = .ok (q.2.1, q.2.2 - q.1))) = true := by decide +kernel
-- 170: PipelineSimulatorModel.checkpoint()I
def il_170 : List (Nat × Instr × Nat) := [(0, .aload_n 0, 1), (1, .getfield 268, 4), (4, .ifCond .le 7, 7), (7, .ldc_w 376, 10), (10, .ireturn, 11), (11, .aload_n 0, 12), (12, .aload_n 0, 13), (13, .getfield 253, 16), (16, .iconst 1, 17), (17, .iadd, 18), (18, .putfield 268, 21), (21, .aload_n 0, 22), (22, .iconst 1, 23), (23, .putfield 259, 26), (26, .aload_n 0, 27), (27, .iconst 0, 28), (28, .putfield 318, 31), (31, .iconst 0, 32), (32, .istore_n 1, 33), (33, .iload_n 1, 34), (34, .bipush 96, 36), (36, .if_icmp .ge 30, 39), (39, .aload_n 0, 40), (40, .getfield 60, 43), (43, .iload_n 1, 44), (44, .iconst 0, 45), (45, .bastore, 46), (46, .aload_n 0, 47), (47, .getfield 69, 50), (50, .iload_n 1, 51), (51, .iconst 0, 52), (52, .iastore, 53), (53, .aload_n 0, 54), (54, .getfield 78, 57), (57, .iload_n 1, 58), (58, .iconst 0, 59), (59, .iastore, 60), (60, .iinc 1 1, 63), (63, .goto (-30), 66), (66, .iconst 0, 67), (67, .istore_n 1, 68), (68, .iload_n 1, 69), (69, .bipush 18, 71), (71, .if_icmp .ge 16, 74), (74, .aload_n 0, 75), (75, .getfield 87, 78), (78, .iload_n 1, 79), (79, .iconst 0, 80), (80, .iastore, 81), (81, .iinc 1 1, 84), (84, .goto (-16), 87), (87, .aload_n 0, 88), (88, .aload_n 0, 89), (89, .getfield 271, 92), (92, .putfield 312, 95), (95, .aload_n 0, 96), (96, .getfield 87, 99), (99, .iconst 0, 100), (100, .aload_n 0, 101), (101, .getfield 84, 104), (104, .iconst 0, 105), (105, .iaload, 106), (106, .iastore, 107), (107, .aload_n 0, 108), (108, .getfield 111, 111), (111, .iconst 0, 112), (112, .iconst 1, 113), (113, .bastore, 114), (114, .aload_n 0, 115), (115, .getfield 268, 118), (118, .ireturn, 119)]
theorem dec_170_0 : ((il_170.drop 0).take 50).all (fun q => decide (decode prog_14_method_48_code q.1 = .ok (q.2.1, q.2.2 - q.1))) = true := by decide +kernel
theorem dec_170_50 : ((il_170.drop 50).take 50).all (fun q => decide (decode prog_14_method_48_code q.1 = .ok (q.2.1, q.2.2 - q.1))) = true := by decide +kernel
-- 171: PipelineSimulator$Simulation.failNow()V
def il_171 : List (Nat × Instr × Nat) := [(0, .aload_n 0, 1), (1, .invokevirtual 110, 4), (4, .aload_n 0, 5), (5, .dup, 6), (6, .getfield 113, 9), (9, .iconst 1, 10), (10, .iadd, 11), (11, .putfield 113, 14), (14, .return_, 15)]
theorem dec_171_0 : ((il_171.drop 0).take 50).all (fun q => decide (decode prog_12_method_8_code q.1 = .ok (q.2.1, q.2.2 - q.1))) = true := by decide +kernel
-- 172: PipelineSimulator.fail()I
def il_172 : List (Nat × Instr × Nat) := [(0, .aload_n 0, 1), (1, .getfield 31, 4), (4, .invokevirtual 127, 7), (7, .aload_n 0, 8), (8, .getfield 31, 11), (11, .getfield 130, 14), (14, .ireturn, 15)]
theorem dec_172_0 : ((il_172.drop 0).take 50).all (fun q => decide (decode prog_1_method_9_code q.1 = .ok (q.2.1, q.2.2 - q.1))) = true := by decide +kernel
-- 173: PipelineSimulatorModel.fail()I
def il_173 : List (Nat × Instr × Nat) := [(0, .aload_n 0, 1), (1, .dup, 2), (2, .getfield 256, 5), (5, .iconst 1, 6), (6, .iadd, 7), (7, .putfield 256, 10), (10, .aload_n 0, 11), (11, .invokevirtual 265, 14), (14, .aload_n 0, 15), (15, .getfield 253, 18), (18, .ireturn, 19)]
theorem dec_173_0 : ((il_173.drop 0).take 50).all (fun q => decide (decode prog_14_method_49_code q.1 = .ok (q.2.1, q.2.2 - q.1))) = true := by decide +kernel
-- 174: PipelineSimulator$Operator.keysMovedBy(I)I
def il_174 : List (Nat × Instr × Nat) := [(0, .iconst 0, 1), (1, .istore_n 2, 2), (2, .iconst 0, 3), (3, .istore_n 3, 4), (4, .iload_n 3, 5), (5, .bipush 16, 7), (7, .if_icmp .ge 41, 10), (10, .aload_n 0, 11), (11, .getfield 20, 14), (14, .iload_n 3, 15), (15, .invokevirtual 60, 18), (18, .ifCond .eq 24, 21), (21, .aload_n 0, 22), (22, .iload_n 3, 23), (23, .aload_n 0, 24), (24, .getfield 57, 27), (27, .invokevirtual 64, 30), (30, .aload_n 0, 31), (31, .iload_n 3, 32), (32, .iload_n 1, 33), (33, .invokevirtual 64, 36), (36, .if_icmp .eq 6, 39), (39, .iinc 2 1, 42), (42, .iinc 3 1, 45), (45, .goto (-41), 48), (48, .iload_n 2, 49), (49, .ireturn, 50)]
theorem dec_174_0 : ((il_174.drop 0).take 50).all (fun q => decide (decode prog_7_method_6_code q.1 = .ok (q.2.1, q.2.2 - q.1))) = true := by decide +kernel
-- 175: PipelineSimulator$Simulation.changeInstances(II)I
def il_175 : List (Nat × Instr × Nat) := [(0, .aload_n 0, 1), (1, .invokevirtual 116, 4), (4, .aload_n 0, 5), (5, .iload_n 1, 6), (6, .invokevirtual 54, 9), (9, .astore_n 3, 10), (10, .aload_n 3, 11), (11, .ifnonnull 5, 14), (14, .iconst 0, 15), (15, .ireturn, 16), (16, .aload_n 3, 17), (17, .iload_n 2, 18), (18, .invokevirtual 119, 21), (21, .istore 4, 23), (23, .aload_n 3, 24), (24, .iload_n 2, 25), (25, .putfield 58, 28), (28, .aload_n 3, 29), (29, .invokevirtual 123, 32), (32, .iload 4, 34), (34, .ireturn, 35)]
theorem dec_175_0 : ((il_175.drop 0).take 50).all (fun q => decide (decode prog_12_method_9_code q.1 = .ok (q.2.1, q.2.2 - q.1))) = true := by decide +kernel
-- 176: PipelineSimulator.rescale(II)I
def il_176 : List (Nat × Instr × Nat) := [(0, .iload_n 1, 1), (1, .ifCond .eq 14, 4), (4, .aload_n 0, 5), (5, .getfield 31, 8), (8, .iload_n 1, 9), (9, .invokevirtual 133, 12), (12, .ifnonnull 6, 15), (15, .ldc 137, 17), (17, .ireturn, 18), (18, .iload_n 2, 19), (19, .iconst 1, 20), (20, .if_icmp .lt 8, 23), (23, .iload_n 2, 24), (24, .iconst 3, 25), (25, .if_icmp .le 6, 28), (28, .ldc 51, 30), (30, .ireturn, 31), (31, .aload_n 0, 32), (32, .getfield 31, 35), (35, .iload_n 1, 36), (36, .iload_n 2, 37), (37, .invokevirtual 138, 40), (40, .ireturn, 41)]
theorem dec_176_0 : ((il_176.drop 0).take 50).all (fun q => decide (decode prog_1_method_10_code q.1 = .ok (q.2.1, q.2.2 - q.1))) = true := by decide +kernel
-- 177: PipelineSimulatorModel.isOperator(I)Z
def il_177 : List (Nat × Instr × Nat) := [(0, .iload_n 1, 1), (1, .iconst 0, 2), (2, .aload_n 0, 3), (3, .invokevirtual 199, 6), (6, .invokestatic 203, 9), (9, .ireturn, 10)]
theorem dec_177_0 : ((il_177.drop 0).take 50).all (fun q => decide (decode prog_14_method_4_code q.1 = .ok (q.2.1, q.2.2 - q.1))) = true := by decide +kernel
-- 178: PipelineSimulatorModel.rescale(II)I
def il_178 : List (Nat × Instr × Nat) := [(0, .aload_n 0, 1), (1, .iload_n 1, 2), (2, .invokevirtual 377, 5), (5, .ifCond .eq 7, 8), (8, .iload_n 1, 9), (9, .ifCond .ne 7, 12), (12, .ldc_w 309, 15), (15, .ireturn, 16), (16, .iload_n 2, 17), (17, .iconst 1, 18), (18, .iconst 3, 19), (19, .invokestatic 203, 22), (22, .ifCond .ne 6, 25), (25, .ldc 207, 27), (27, .ireturn, 28), (28, .aload_n 0, 29), (29, .dup, 30), (30, .getfield 256, 33), (33, .iconst 1, 34), (34, .iadd, 35), (35, .putfield 256, 38), (38, .aload_n 0, 39), (39, .getfield 22, 42), (42, .iload_n 1, 43), (43, .iaload, 44), (44, .istore_n 3, 45), (45, .iconst 0, 46), (46, .istore 4, 48), (48, .iload 4, 50), (50, .iconst 3, 51), (51, .if_icmp .ge 21, 54), (54, .aload_n 0, 55), (55, .getfield 90, 58), (58, .iload_n 1, 59), (59, .iload 4, 61), (61, .invokestatic 288, 64), (64, .iconst 0, 65), (65, .iastore, 66), (66, .iinc 4 1, 69), (69, .goto (-21), 72), (72, .aload_n 0, 73), (73, .getfield 22, 76), (76, .iload_n 1, 77), (77, .iload_n 2, 78), (78, .iastore, 79), (79, .aload_n 0, 80), (80, .invokevirtual 265, 83), (83, .iconst 0, 84), (84, .istore 4, 86), (86, .iconst 0, 87), (87, .istore 5, 89), (89, .iload 5, 91), (91, .bipush 16, 93), (93, .if_icmp .ge 62, 96), (96, .aload_n 0, 97), (97, .iload_n 1, 98), (98, .invokevirtual 281, 101), (101, .ifCond .eq 54, 104), (104, .iload 4, 106), (106, .aload_n 0, 107), (107, .getfield 56, 110), (110, .bipush 16, 112), (112, .iload_n 1, 113), (113, .imul, 114), (114, .iload 5, 116), (116, .iadd, 117), (117, .baload, 118), (118, .ifCond .eq 27, 121), (121, .iload 5, 123), (123, .bipush 8, 125), (125, .irem, 126), (126, .iload_n 3, 127), (127, .imul, 128), (128, .bipush 8, 130), (130, .idiv, 131), (131, .aload_n 0, 132), (132, .iload_n 1, 133), (133, .iload 5, 135), (135, .invokevirtual 285, 138), (138, .if_icmp .eq 7, 141), (141, .iconst 1, 142), (142, .goto 4, 145), (145, .iconst 0, 146), (146, .iadd, 147), (147, .istore 4, 149), (149, .iinc 5 1, 152), (152, .goto (-63), 155), (155, .iload 4, 157), (157, .ireturn, 158)]
theorem dec_178_0 : ((il_178.drop 0).take 50).all (fun q => decide (decode prog_14_method_50_code q.1 = .ok (q.2.1, q.2.2 - q.1))) = true := by decide +kernel
theorem dec_178_50 : ((il_178.drop 50).take 50).all (fun q => decide (decode prog_14_method_50_code q.1 = .ok (q.2.1, q.2.2 - q.1))) = true := by decide +kernel
-- 179: PipelineSimulator$Simulation.recordsInChannels()I
def il_179 : List (Nat × Instr × Nat) := [(0, .iconst 0, 1), (1, .istore_n 1, 2), (2, .aload_n 0, 3), (3, .getfield 35, 6), (6, .astore_n 2, 7), (7, .aload_n 2, 8), (8, .arraylength, 9), (9, .istore_n 3, 10), (10, .iconst 0, 11), (11, .istore 4, 13), (13, .iload 4, 15), (15, .iload_n 3, 16), (16, .if_icmp .ge 31, 19), (19, .aload_n 2, 20), (20, .iload 4, 22), (22, .aaload, 23), (23, .astore 5, 25), (25, .aload 5, 27), (27, .ifnull 14, 30), (30, .iload_n 1, 31), (31, .aload 5, 33), (33, .getfield 165, 36), (36, .getfield 156, 39), (39, .iadd, 40), (40, .istore_n 1, 41), (41, .iinc 4 1, 44), (44, .goto (-31), 47), (47, .iload_n 1, 48), (48, .ireturn, 49)]
theorem dec_179_0 : ((il_179.drop 0).take 50).all (fun q => decide (decode prog_12_method_12_code q.1 = .ok (q.2.1, q.2.2 - q.1))) = true := by decide +kernel
-- 180: PipelineSimulator$Simulation.recordsInSink()I
def il_180 : List (Nat × Instr × Nat) := [(0, .aload_n 0, 1), (1, .aload_n 0, 2), (2, .getfield 50, 5), (5, .iconst 1, 6), (6, .iadd, 7), (7, .invokevirtual 54, 10), (10, .astore_n 1, 11), (11, .iconst 0, 12), (12, .istore_n 2, 13), (13, .iconst 0, 14), (14, .istore_n 3, 15), (15, .iload_n 3, 16), (16, .bipush 16, 18), (18, .if_icmp .ge 24, 21), (21, .aload_n 1, 22), (22, .ifnull 20, 25), (25, .iload_n 2, 26), (26, .aload_n 1, 27), (27, .getfield 171, 30), (30, .iload_n 3, 31), (31, .invokevirtual 175, 34), (34, .iadd, 35), (35, .istore_n 2, 36), (36, .iinc 3 1, 39), (39, .goto (-24), 42), (42, .iload_n 2, 43), (43, .ireturn, 44)]
theorem dec_180_0 : ((il_180.drop 0).take 50).all (fun q => decide (decode prog_12_method_14_code q.1 = .ok (q.2.1, q.2.2 - q.1))) = true := by decide +kernel
-- 181: PipelineSimulator.count(I)I
def il_181 : List (Nat × Instr × Nat) := [(0, .iload_n 1, 1), (1, .tableswitch 140 0 9 #[55, 65, 76, 84, 92, 100, 108, 116, 124, 132], 56), (56, .aload_n 0, 57), (57, .getfield 31, 60), (60, .getfield 80, 63), (63, .iconst 2, 64), (64, .iadd, 65), (65, .ireturn, 66), (66, .aload_n 0, 67), (67, .getfield 31, 70), (70, .getfield 101, 73), (73, .getfield 105, 76), (76, .ireturn, 77), (77, .aload_n 0, 78), (78, .getfield 31, 81), (81, .getfield 142, 84), (84, .ireturn, 85), (85, .aload_n 0, 86), (86, .getfield 31, 89), (89, .getfield 145, 92), (92, .ireturn, 93), (93, .aload_n 0, 94), (94, .getfield 31, 97), (97, .getfield 130, 100), (100, .ireturn, 101), (101, .aload_n 0, 102), (102, .getfield 31, 105), (105, .getfield 120, 108), (108, .ireturn, 109), (109, .aload_n 0, 110), (110, .getfield 31, 113), (113, .getfield 148, 116), (116, .ireturn, 117), (117, .aload_n 0, 118), (118, .getfield 31, 121), (121, .invokevirtual 151, 124), (124, .ireturn, 125), (125, .aload_n 0, 126), (126, .getfield 31, 129), (129, .invokevirtual 154, 132), (132, .ireturn, 133), (133, .aload_n 0, 134), (134, .getfield 31, 137), (137, .invokevirtual 157, 140), (140, .ireturn, 141), (141, .ldc 51, 143), (143, .ireturn, 144)]
theorem dec_181_0 : ((il_181.drop 0).take 50).all (fun q => decide (decode prog_1_method_11_code q.1 = .ok (q.2.1, q.2.2 - q.1))) = true := by decide +kernel
-- 182: PipelineSimulatorModel.inside(I)I
def il_182 : List (Nat × Instr × Nat) := [(0, .aload_n 0, 1), (1, .getfield 114, 4), (4, .iload_n 1, 5), (5, .iaload, 6), (6, .aload_n 0, 7), (7, .getfield 132, 10), (10, .iload_n 1, 11), (11, .iaload, 12), (12, .isub, 13), (13, .istore_n 2, 14), (14, .iconst 0, 15), (15, .istore_n 3, 16), (16, .iload_n 3, 17), (17, .aload_n 0, 18), (18, .getfield 129, 21), (21, .iload_n 1, 22), (22, .iaload, 23), (23, .if_icmp .ge 39, 26), (26, .iload_n 2, 27), (27, .aload_n 0, 28), (28, .getfield 135, 31), (31, .iconst 4, 32), (32, .iload_n 1, 33), (33, .imul, 34), (34, .iload_n 3, 35), (35, .iadd, 36), (36, .iaload, 37), (37, .ifCond .le 16, 40), (40, .aload_n 0, 41), (41, .getfield 135, 44), (44, .iconst 4, 45), (45, .iload_n 1, 46), (46, .imul, 47), (47, .iload_n 3, 48), (48, .iadd, 49), (49, .iaload, 50), (50, .goto 4, 53), (53, .iconst 0, 54), (54, .iadd, 55), (55, .istore_n 2, 56), (56, .iinc 3 1, 59), (59, .goto (-43), 62), (62, .iload_n 2, 63), (63, .ireturn, 64)]
theorem dec_182_0 : ((il_182.drop 0).take 50).all (fun q => decide (decode prog_14_method_28_code q.1 = .ok (q.2.1, q.2.2 - q.1))) = true := by decide +kernel
-- 183: PipelineSimulatorModel.count(I)I
def il_183 : List (Nat × Instr × Nat) := [(0, .iload_n 1, 1), (1, .iconst 0, 2), (2, .bipush 9, 4), (4, .invokestatic 203, 7), (7, .ifCond .ne 6, 10), (10, .ldc 207, 12), (12, .ireturn, 13), (13, .iconst 0, 14), (14, .istore_n 2, 15), (15, .iload_n 1, 16), (16, .tableswitch 138 0 8 #[52, 59, 64, 69, 74, 79, 84, 89, 113], 68), (68, .aload_n 0, 69), (69, .getfield 196, 72), (72, .iconst 2, 73), (73, .iadd, 74), (74, .ireturn, 75), (75, .aload_n 0, 76), (76, .getfield 275, 79), (79, .ireturn, 80), (80, .aload_n 0, 81), (81, .getfield 271, 84), (84, .ireturn, 85), (85, .aload_n 0, 86), (86, .getfield 243, 89), (89, .ireturn, 90), (90, .aload_n 0, 91), (91, .getfield 253, 94), (94, .ireturn, 95), (95, .aload_n 0, 96), (96, .getfield 268, 99), (99, .ireturn, 100), (100, .aload_n 0, 101), (101, .getfield 256, 104), (104, .ireturn, 105), (105, .iconst 0, 106), (106, .istore_n 3, 107), (107, .iload_n 3, 108), (108, .bipush 54, 110), (110, .if_icmp .ge 17, 113), (113, .iload_n 2, 114), (114, .aload_n 0, 115), (115, .iload_n 3, 116), (116, .invokevirtual 380, 119), (119, .iadd, 120), (120, .istore_n 2, 121), (121, .iinc 3 1, 124), (124, .goto (-17), 127), (127, .iload_n 2, 128), (128, .ireturn, 129), (129, .iconst 0, 130), (130, .istore_n 3, 131), (131, .iload_n 3, 132), (132, .bipush 18, 134), (134, .if_icmp .ge 18, 137), (137, .iload_n 2, 138), (138, .aload_n 0, 139), (139, .getfield 93, 142), (142, .iload_n 3, 143), (143, .iaload, 144), (144, .iadd, 145), (145, .istore_n 2, 146), (146, .iinc 3 1, 149), (149, .goto (-18), 152), (152, .iload_n 2, 153), (153, .ireturn, 154), (154, .iconst 0, 155), (155, .istore_n 3, 156), (156, .iload_n 3, 157), (157, .bipush 16, 159), (159, .if_icmp .ge 47, 162), (162, .iload_n 2, 163), (163, .aload_n 0, 164), (164, .getfield 56, 167), (167, .bipush 16, 169), (169, .aload_n 0, 170), (170, .invokevirtual 199, 173), (173, .imul, 174), (174, .iload_n 3, 175), (175, .iadd, 176), (176, .baload, 177), (177, .ifCond .eq 20, 180), (180, .aload_n 0, 181), (181, .getfield 75, 184), (184, .bipush 16, 186), (186, .aload_n 0, 187), (187, .invokevirtual 199, 190), (190, .imul, 191), (191, .iload_n 3, 192), (192, .iadd, 193), (193, .iaload, 194), (194, .goto 4, 197), (197, .iconst 0, 198), (198, .iadd, 199), (199, .istore_n 2, 200), (200, .iinc 3 1, 203), (203, .goto (-47), 206), (206, .iload_n 2, 207), (207, .ireturn, 208)]
theorem dec_183_0 : ((il_183.drop 0).take 50).all (fun q => decide (decode prog_14_method_51_code q.1 = .ok (q.2.1, q.2.2 - q.1))) = true := by decide +kernel
theorem dec_183_50 : ((il_183.drop 50).take 50).all (fun q => decide (decode prog_14_method_51_code q.1 = .ok (q.2.1, q.2.2 - q.1))) = true := by decide +kernel
-- 184: PipelineSimulator.operator(II)I
def il_184 : List (Nat × Instr × Nat) := [(0, .aload_n 0, 1), (1, .getfield 31, 4), (4, .iload_n 1, 5), (5, .invokevirtual 133, 8), (8, .astore_n 3, 9), (9, .aload_n 3, 10), (10, .ifnonnull 6, 13), (13, .ldc 137, 15), (15, .ireturn, 16), (16, .iload_n 2, 17), (17, .tableswitch 87 0 7 #[47, 52, 57, 62, 67, 72, 77, 82], 64), (64, .aload_n 3, 65), (65, .getfield 160, 68), (68, .ireturn, 69), (69, .aload_n 3, 70), (70, .getfield 165, 73), (73, .ireturn, 74), (74, .aload_n 3, 75), (75, .getfield 166, 78), (78, .ireturn, 79), (79, .aload_n 3, 80), (80, .getfield 169, 83), (83, .ireturn, 84), (84, .aload_n 3, 85), (85, .getfield 172, 88), (88, .ireturn, 89), (89, .aload_n 3, 90), (90, .getfield 175, 93), (93, .ireturn, 94), (94, .aload_n 3, 95), (95, .getfield 178, 98), (98, .ireturn, 99), (99, .aload_n 3, 100), (100, .getfield 181, 103), (103, .ireturn, 104), (104, .ldc 51, 106), (106, .ireturn, 107)]
theorem dec_184_0 : ((il_184.drop 0).take 50).all (fun q => decide (decode prog_1_method_12_code q.1 = .ok (q.2.1, q.2.2 - q.1))) = true := by decide +kernel
-- 185: PipelineSimulatorModel.operator(II)I
def il_185 : List (Nat × Instr × Nat) := [(0, .aload_n 0, 1), (1, .iload_n 1, 2), (2, .invokevirtual 377, 5), (5, .ifCond .ne 7, 8), (8, .ldc_w 309, 11), (11, .ireturn, 12), (12, .iload_n 2, 13), (13, .iconst 0, 14), (14, .bipush 7, 16), (16, .invokestatic 203, 19), (19, .ifCond .ne 6, 22), (22, .ldc 207, 24), (24, .ireturn, 25), (25, .iload_n 2, 26), (26, .tableswitch 91 0 6 #[42, 49, 56, 63, 70, 77, 84], 68), (68, .aload_n 0, 69), (69, .getfield 13, 72), (72, .iload_n 1, 73), (73, .iaload, 74), (74, .ireturn, 75), (75, .aload_n 0, 76), (76, .getfield 22, 79), (79, .iload_n 1, 80), (80, .iaload, 81), (81, .ireturn, 82), (82, .aload_n 0, 83), (83, .getfield 16, 86), (86, .iload_n 1, 87), (87, .iaload, 88), (88, .ireturn, 89), (89, .aload_n 0, 90), (90, .getfield 19, 93), (93, .iload_n 1, 94), (94, .iaload, 95), (95, .ireturn, 96), (96, .aload_n 0, 97), (97, .getfield 44, 100), (100, .iload_n 1, 101), (101, .iaload, 102), (102, .ireturn, 103), (103, .aload_n 0, 104), (104, .getfield 47, 107), (107, .iload_n 1, 108), (108, .iaload, 109), (109, .ireturn, 110), (110, .aload_n 0, 111), (111, .getfield 50, 114), (114, .iload_n 1, 115), (115, .iaload, 116), (116, .ireturn, 117), (117, .aload_n 0, 118), (118, .getfield 53, 121), (121, .iload_n 1, 122), (122, .iaload, 123), (123, .ireturn, 124)]
theorem dec_185_0 : ((il_185.drop 0).take 50).all (fun q => decide (decode prog_14_method_52_code q.1 = .ok (q.2.1, q.2.2 - q.1))) = true := by decide +kernel
theorem dec_185_50 : ((il_185.drop 50).take 50).all (fun q => decide (decode prog_14_method_52_code q.1 = .ok (q.2.1, q.2.2 - q.1))) = true := by decide +kernel
-- 186: PipelineSimulator$Operator.keysOf(I)I
def il_186 : List (Nat × Instr × Nat) := [(0, .iconst 0, 1), (1, .istore_n 2, 2), (2, .iconst 0, 3), (3, .istore_n 3, 4), (4, .iload_n 3, 5), (5, .bipush 16, 7), (7, .if_icmp .ge 36, 10), (10, .aload_n 0, 11), (11, .getfield 20, 14), (14, .iload_n 3, 15), (15, .invokevirtual 60, 18), (18, .ifCond .eq 19, 21), (21, .aload_n 0, 22), (22, .iload_n 3, 23), (23, .aload_n 0, 24), (24, .getfield 57, 27), (27, .invokevirtual 64, 30), (30, .iload_n 1, 31), (31, .if_icmp .ne 6, 34), (34, .iinc 2 1, 37), (37, .iinc 3 1, 40), (40, .goto (-36), 43), (43, .iload_n 2, 44), (44, .ireturn, 45)]
theorem dec_186_0 : ((il_186.drop 0).take 50).all (fun q => decide (decode prog_7_method_5_code q.1 = .ok (q.2.1, q.2.2 - q.1))) = true := by decide +kernel
-- 187: PipelineSimulator.instance(III)I
def il_187 : List (Nat × Instr × Nat) := [(0, .aload_n 0, 1), (1, .getfield 31, 4), (4, .iload_n 1, 5), (5, .invokevirtual 133, 8), (8, .astore 4, 10), (10, .aload_n 0, 11), (11, .getfield 31, 14), (14, .iload_n 1, 15), (15, .iload_n 2, 16), (16, .invokevirtual 184, 19), (19, .astore 5, 21), (21, .aload 4, 23), (23, .ifnull 8, 26), (26, .aload 5, 28), (28, .ifnonnull 6, 31), (31, .ldc 137, 33), (33, .ireturn, 34), (34, .iload_n 3, 35), (35, .tableswitch 85 0 5 #[37, 46, 60, 66, 72, 78], 72), (72, .aload 5, 74), (74, .getfield 188, 77), (77, .getfield 105, 80), (80, .ireturn, 81), (81, .aload 5, 83), (83, .getfield 193, 86), (86, .ifCond .eq 7, 89), (89, .iconst 1, 90), (90, .goto 4, 93), (93, .iconst 0, 94), (94, .ireturn, 95), (95, .aload 5, 97), (97, .getfield 196, 100), (100, .ireturn, 101), (101, .aload 5, 103), (103, .getfield 199, 106), (106, .ireturn, 107), (107, .aload 5, 109), (109, .getfield 202, 112), (112, .ireturn, 113), (113, .aload 4, 115), (115, .iload_n 2, 116), (116, .invokevirtual 205, 119), (119, .ireturn, 120), (120, .ldc 51, 122), (122, .ireturn, 123)]
theorem dec_187_0 : ((il_187.drop 0).take 50).all (fun q => decide (decode prog_1_method_13_code q.1 = .ok (q.2.1, q.2.2 - q.1))) = true := by decide +kernel
-- 188: PipelineSimulatorModel.keysOf(II)I
def il_188 : List (Nat × Instr × Nat) := [(0, .iconst 0, 1), (1, .istore_n 3, 2), (2, .iconst 0, 3), (3, .istore 4, 5), (5, .iload 4, 7), (7, .bipush 16, 9), (9, .if_icmp .ge 51, 12), (12, .aload_n 0, 13), (13, .iload_n 1, 14), (14, .invokevirtual 281, 17), (17, .ifCond .eq 43, 20), (20, .iload_n 3, 21), (21, .aload_n 0, 22), (22, .getfield 56, 25), (25, .bipush 16, 27), (27, .iload_n 1, 28), (28, .imul, 29), (29, .iload 4, 31), (31, .iadd, 32), (32, .baload, 33), (33, .ifCond .eq 18, 36), (36, .aload_n 0, 37), (37, .iload_n 1, 38), (38, .iload 4, 40), (40, .invokevirtual 285, 43), (43, .iload_n 2, 44), (44, .if_icmp .ne 7, 47), (47, .iconst 1, 48), (48, .goto 4, 51), (51, .iconst 0, 52), (52, .iadd, 53), (53, .istore_n 3, 54), (54, .iinc 4 1, 57), (57, .goto (-52), 60), (60, .iload_n 3, 61), (61, .ireturn, 62)]
theorem dec_188_0 : ((il_188.drop 0).take 50).all (fun q => decide (decode prog_14_method_53_code q.1 = .ok (q.2.1, q.2.2 - q.1))) = true := by decide +kernel
-- 189: PipelineSimulatorModel.instance(III)I
def il_189 : List (Nat × Instr × Nat) := [(0, .aload_n 0, 1), (1, .iload_n 1, 2), (2, .invokevirtual 377, 5), (5, .ifCond .eq 19, 8), (8, .iload_n 2, 9), (9, .iconst 0, 10), (10, .aload_n 0, 11), (11, .getfield 22, 14), (14, .iload_n 1, 15), (15, .iaload, 16), (16, .iconst 1, 17), (17, .isub, 18), (18, .invokestatic 203, 21), (21, .ifCond .ne 7, 24), (24, .ldc_w 309, 27), (27, .ireturn, 28), (28, .iload_n 3, 29), (29, .iconst 0, 30), (30, .iconst 5, 31), (31, .invokestatic 203, 34), (34, .ifCond .ne 6, 37), (37, .ldc 207, 39), (39, .ireturn, 40), (40, .iload_n 1, 41), (41, .iload_n 2, 42), (42, .invokestatic 288, 45), (45, .istore 4, 47), (47, .iload_n 3, 48), (48, .tableswitch 84 0 4 #[36, 44, 60, 68, 76], 84), (84, .aload_n 0, 85), (85, .getfield 93, 88), (88, .iload 4, 90), (90, .iaload, 91), (91, .ireturn, 92), (92, .aload_n 0, 93), (93, .getfield 111, 96), (96, .iload 4, 98), (98, .baload, 99), (99, .ifCond .eq 7, 102), (102, .iconst 1, 103), (103, .goto 4, 106), (106, .iconst 0, 107), (107, .ireturn, 108), (108, .aload_n 0, 109), (109, .getfield 105, 112), (112, .iload 4, 114), (114, .iaload, 115), (115, .ireturn, 116), (116, .aload_n 0, 117), (117, .getfield 108, 120), (120, .iload 4, 122), (122, .iaload, 123), (123, .ireturn, 124), (124, .aload_n 0, 125), (125, .getfield 84, 128), (128, .iload 4, 130), (130, .iaload, 131), (131, .ireturn, 132), (132, .aload_n 0, 133), (133, .iload_n 1, 134), (134, .iload_n 2, 135), (135, .invokevirtual 383, 138), (138, .ireturn, 139)]
theorem dec_189_0 : ((il_189.drop 0).take 50).all (fun q => decide (decode prog_14_method_54_code q.1 = .ok (q.2.1, q.2.2 - q.1))) = true := by decide +kernel
theorem dec_189_50 : ((il_189.drop 50).take 50).all (fun q => decide (decode prog_14_method_54_code q.1 = .ok (q.2.1, q.2.2 - q.1))) = true := by decide +kernel
-- 190: PipelineSimulator.channel(IIII)I
def il_190 : List (Nat × Instr × Nat) := [(0, .aload_n 0, 1), (1, .getfield 31, 4), (4, .iload_n 1, 5), (5, .iload_n 2, 6), (6, .iload_n 3, 7), (7, .invokevirtual 209, 10), (10, .astore 5, 12), (12, .aload 5, 14), (14, .ifnonnull 6, 17), (17, .ldc 137, 19), (19, .ireturn, 20), (20, .iload 4, 22), (22, .tableswitch 78 0 4 #[34, 40, 46, 55, 61], 56), (56, .aload 5, 58), (58, .getfield 213, 61), (61, .ireturn, 62), (62, .aload 5, 64), (64, .getfield 218, 67), (67, .ireturn, 68), (68, .aload 5, 70), (70, .getfield 221, 73), (73, .getfield 105, 76), (76, .ireturn, 77), (77, .aload 5, 79), (79, .getfield 224, 82), (82, .ireturn, 83), (83, .aload_n 0, 84), (84, .getfield 31, 87), (87, .getfield 88, 90), (90, .getfield 227, 93), (93, .aload 5, 95), (95, .getfield 213, 98), (98, .isub, 99), (99, .ireturn, 100), (100, .ldc 51, 102), (102, .ireturn, 103)]
theorem dec_190_0 : ((il_190.drop 0).take 50).all (fun q => decide (decode prog_1_method_14_code q.1 = .ok (q.2.1, q.2.2 - q.1))) = true := by decide +kernel
-- 191: PipelineSimulatorModel.channel(IIII)I
def il_191 : List (Nat × Instr × Nat) := [(0, .iload_n 1, 1), (1, .iconst 0, 2), (2, .aload_n 0, 3), (3, .getfield 196, 6), (6, .invokestatic 203, 9), (9, .ifCond .eq 37, 12), (12, .iload_n 2, 13), (13, .iconst 0, 14), (14, .aload_n 0, 15), (15, .getfield 22, 18), (18, .iload_n 1, 19), (19, .iaload, 20), (20, .iconst 1, 21), (21, .isub, 22), (22, .invokestatic 203, 25), (25, .ifCond .eq 21, 28), (28, .iload_n 3, 29), (29, .iconst 0, 30), (30, .aload_n 0, 31), (31, .getfield 22, 34), (34, .iload_n 1, 35), (35, .iconst 1, 36), (36, .iadd, 37), (37, .iaload, 38), (38, .iconst 1, 39), (39, .isub, 40), (40, .invokestatic 203, 43), (43, .ifCond .ne 7, 46), (46, .ldc_w 309, 49), (49, .ireturn, 50), (50, .iload 4, 52), (52, .iconst 0, 53), (53, .iconst 4, 54), (54, .invokestatic 203, 57), (57, .ifCond .ne 6, 60), (60, .ldc 207, 62), (62, .ireturn, 63), (63, .iload_n 1, 64), (64, .iload_n 2, 65), (65, .iload_n 3, 66), (66, .invokestatic 324, 69), (69, .istore 5, 71), (71, .iload 4, 73), (73, .ifCond .ne 13, 76), (76, .aload_n 0, 77), (77, .getfield 129, 80), (80, .iload 5, 82), (82, .iaload, 83), (83, .goto 62, 86), (86, .iload 4, 88), (88, .iconst 1, 89), (89, .if_icmp .ne 13, 92), (92, .aload_n 0, 93), (93, .getfield 114, 96), (96, .iload 5, 98), (98, .iaload, 99), (99, .goto 46, 102), (102, .iload 4, 104), (104, .iconst 2, 105), (105, .if_icmp .ne 12, 108), (108, .aload_n 0, 109), (109, .iload 5, 111), (111, .invokevirtual 380, 114), (114, .goto 31, 117), (117, .iload 4, 119), (119, .iconst 3, 120), (120, .if_icmp .ne 13, 123), (123, .aload_n 0, 124), (124, .getfield 117, 127), (127, .iload 5, 129), (129, .iaload, 130), (130, .goto 15, 133), (133, .aload_n 0, 134), (134, .getfield 32, 137), (137, .aload_n 0, 138), (138, .getfield 129, 141), (141, .iload 5, 143), (143, .iaload, 144), (144, .isub, 145), (145, .ireturn, 146)]
theorem dec_191_0 : ((il_191.drop 0).take 50).all (fun q => decide (decode prog_14_method_55_code q.1 = .ok (q.2.1, q.2.2 - q.1))) = true := by decide +kernel
theorem dec_191_50 : ((il_191.drop 50).take 50).all (fun q => decide (decode prog_14_method_55_code q.1 = .ok (q.2.1, q.2.2 - q.1))) = true := by decide +kernel
-- 192: PipelineSimulator.numberOf(LPipelineSimulator$Keyed;II)I
def il_192 : List (Nat × Instr × Nat) := [(0, .iload_n 1, 1), (1, .ifCond .lt 17, 4), (4, .iload_n 1, 5), (5, .bipush 16, 7), (7, .if_icmp .ge 11, 10), (10, .aload_n 0, 11), (11, .iload_n 1, 12), (12, .invokevirtual 295, 15), (15, .ifCond .ne 6, 18), (18, .ldc 137, 20), (20, .ireturn, 21), (21, .iload_n 2, 22), (22, .ifCond .eq 11, 25), (25, .iload_n 2, 26), (26, .iconst 1, 27), (27, .if_icmp .eq 6, 30), (30, .ldc 51, 32), (32, .ireturn, 33), (33, .iload_n 2, 34), (34, .ifCond .ne 11, 37), (37, .aload_n 0, 38), (38, .iload_n 1, 39), (39, .invokevirtual 301, 42), (42, .goto 8, 45), (45, .aload_n 0, 46), (46, .iload_n 1, 47), (47, .invokevirtual 304, 50), (50, .ireturn, 51)]
theorem dec_192_0 : ((il_192.drop 0).take 50).all (fun q => decide (decode prog_1_method_24_code q.1 = .ok (q.2.1, q.2.2 - q.1))) = true := by decide +kernel
-- 193: PipelineSimulator.state(III)I
def il_193 : List (Nat × Instr × Nat) := [(0, .aload_n 0, 1), (1, .getfield 31, 4), (4, .iload_n 1, 5), (5, .invokevirtual 133, 8), (8, .astore 4, 10), (10, .aload 4, 12), (12, .ifnonnull 8, 15), (15, .ldc 137, 17), (17, .goto 13, 20), (20, .aload 4, 22), (22, .getfield 230, 25), (25, .iload_n 2, 26), (26, .iload_n 3, 27), (27, .invokestatic 234, 30), (30, .ireturn, 31)]
theorem dec_193_0 : ((il_193.drop 0).take 50).all (fun q => decide (decode prog_1_method_15_code q.1 = .ok (q.2.1, q.2.2 - q.1))) = true := by decide +kernel
-- 194: PipelineSimulatorModel.told(III[Z[I[I)I
def il_194 : List (Nat × Instr × Nat) := [(0, .aload_n 0, 1), (1, .iload_n 1, 2), (2, .invokevirtual 377, 5), (5, .ifCond .eq 33, 8), (8, .iload_n 2, 9), (9, .iconst 0, 10), (10, .bipush 15, 12), (12, .invokestatic 203, 15), (15, .ifCond .eq 23, 18), (18, .aload_n 0, 19), (19, .iload_n 1, 20), (20, .invokevirtual 281, 23), (23, .ifCond .eq 15, 26), (26, .aload 4, 28), (28, .bipush 16, 30), (30, .iload_n 1, 31), (31, .imul, 32), (32, .iload_n 2, 33), (33, .iadd, 34), (34, .baload, 35), (35, .ifCond .ne 7, 38), (38, .ldc_w 309, 41), (41, .ireturn, 42), (42, .iload_n 3, 43), (43, .iconst 0, 44), (44, .iconst 1, 45), (45, .invokestatic 203, 48), (48, .ifCond .ne 8, 51), (51, .ldc 207, 53), (53, .goto 28, 56), (56, .iload_n 3, 57), (57, .ifCond .ne 15, 60), (60, .aload 5, 62), (62, .bipush 16, 64), (64, .iload_n 1, 65), (65, .imul, 66), (66, .iload_n 2, 67), (67, .iadd, 68), (68, .iaload, 69), (69, .goto 12, 72), (72, .aload 6, 74), (74, .bipush 16, 76), (76, .iload_n 1, 77), (77, .imul, 78), (78, .iload_n 2, 79), (79, .iadd, 80), (80, .iaload, 81), (81, .ireturn, 82)]
theorem dec_194_0 : ((il_194.drop 0).take 50).all (fun q => decide (decode prog_14_method_56_code q.1 = .ok (q.2.1, q.2.2 - q.1))) = true := by decide +kernel
-- 195: PipelineSimulatorModel.state(III)I
def il_195 : List (Nat × Instr × Nat) := [(0, .aload_n 0, 1), (1, .iload_n 1, 2), (2, .iload_n 2, 3), (3, .iload_n 3, 4), (4, .aload_n 0, 5), (5, .getfield 56, 8), (8, .aload_n 0, 9), (9, .getfield 66, 12), (12, .aload_n 0, 13), (13, .getfield 75, 16), (16, .invokevirtual 386, 19), (19, .ireturn, 20)]
theorem dec_195_0 : ((il_195.drop 0).take 50).all (fun q => decide (decode prog_14_method_57_code q.1 = .ok (q.2.1, q.2.2 - q.1))) = true := by decide +kernel
-- 196: PipelineSimulator.savedState(III)I
def il_196 : List (Nat × Instr × Nat) := [(0, .aload_n 0, 1), (1, .getfield 31, 4), (4, .iload_n 1, 5), (5, .invokevirtual 133, 8), (8, .astore 4, 10), (10, .aload 4, 12), (12, .ifnonnull 8, 15), (15, .ldc 137, 17), (17, .goto 13, 20), (20, .aload 4, 22), (22, .getfield 238, 25), (25, .iload_n 2, 26), (26, .iload_n 3, 27), (27, .invokestatic 234, 30), (30, .ireturn, 31)]
theorem dec_196_0 : ((il_196.drop 0).take 50).all (fun q => decide (decode prog_1_method_16_code q.1 = .ok (q.2.1, q.2.2 - q.1))) = true := by decide +kernel
-- 197: PipelineSimulatorModel.savedState(III)I
def il_197 : List (Nat × Instr × Nat) := [(0, .aload_n 0, 1), (1, .iload_n 1, 2), (2, .iload_n 2, 3), (3, .iload_n 3, 4), (4, .aload_n 0, 5), (5, .getfield 63, 8), (8, .aload_n 0, 9), (9, .getfield 72, 12), (12, .aload_n 0, 13), (13, .getfield 81, 16), (16, .invokevirtual 386, 19), (19, .ireturn, 20)]
theorem dec_197_0 : ((il_197.drop 0).take 50).all (fun q => decide (decode prog_14_method_58_code q.1 = .ok (q.2.1, q.2.2 - q.1))) = true := by decide +kernel
-- 198: PipelineSimulator$Latencies.leastOf(I)I
def il_198 : List (Nat × Instr × Nat) := [(0, .lconst 0, 1), (1, .lstore_n 2, 2), (2, .iconst 0, 3), (3, .istore 4, 5), (5, .iload 4, 7), (7, .aload_n 0, 8), (8, .getfield 7, 11), (11, .arraylength, 12), (12, .if_icmp .ge 46, 15), (15, .lload_n 2, 16), (16, .aload_n 0, 17), (17, .getfield 7, 20), (20, .iload 4, 22), (22, .iaload, 23), (23, .i2l, 24), (24, .ladd, 25), (25, .lstore_n 2, 26), (26, .lload_n 2, 27), (27, .lconst 0, 28), (28, .lcmp, 29), (29, .ifCond .le 23, 32), (32, .lload_n 2, 33), (33, .ldc2_w 36, 36), (36, .lmul, 37), (37, .iload_n 1, 38), (38, .i2l, 39), (39, .aload_n 0, 40), (40, .getfield 29, 43), (43, .i2l, 44), (44, .lmul, 45), (45, .lcmp, 46), (46, .ifCond .lt 6, 49), (49, .iload 4, 51), (51, .ireturn, 52), (52, .iinc 4 1, 55), (55, .goto (-50), 58), (58, .ldc 13, 60), (60, .ireturn, 61)]
theorem dec_198_0 : ((il_198.drop 0).take 50).all (fun q => decide (decode prog_6_method_3_code q.1 = .ok (q.2.1, q.2.2 - q.1))) = true := by decide +kernel
-- 199: PipelineSimulator.latency(I)I
def il_199 : List (Nat × Instr × Nat) := [(0, .iload_n 1, 1), (1, .bipush (-2), 3), (3, .if_icmp .lt 9, 6), (6, .iload_n 1, 7), (7, .bipush 100, 9), (9, .if_icmp .le 6, 12), (12, .ldc 51, 14), (14, .ireturn, 15), (15, .aload_n 0, 16), (16, .getfield 31, 19), (19, .getfield 241, 22), (22, .astore_n 2, 23), (23, .aload_n 2, 24), (24, .getfield 245, 27), (27, .ifCond .ne 6, 30), (30, .ldc 137, 32), (32, .ireturn, 33), (33, .iload_n 1, 34), (34, .bipush (-2), 36), (36, .if_icmp .ne 8, 39), (39, .aload_n 2, 40), (40, .getfield 250, 43), (43, .ireturn, 44), (44, .iload_n 1, 45), (45, .iconst (-1), 46), (46, .if_icmp .ne 10, 49), (49, .aload_n 2, 50), (50, .getfield 245, 53), (53, .goto 8, 56), (56, .aload_n 2, 57), (57, .iload_n 1, 58), (58, .invokevirtual 253, 61), (61, .ireturn, 62)]
theorem dec_199_0 : ((il_199.drop 0).take 50).all (fun q => decide (decode prog_1_method_17_code q.1 = .ok (q.2.1, q.2.2 - q.1))) = true := by decide +kernel
-- 200: PipelineSimulatorModel.latency(I)I
def il_200 : List (Nat × Instr × Nat) := [(0, .iload_n 1, 1), (1, .bipush (-2), 3), (3, .bipush 100, 5), (5, .invokestatic 203, 8), (8, .ifCond .ne 6, 11), (11, .ldc 207, 13), (13, .ireturn, 14), (14, .aload_n 0, 15), (15, .getfield 246, 18), (18, .ifCond .ne 7, 21), (21, .ldc_w 309, 24), (24, .ireturn, 25), (25, .iload_n 1, 26), (26, .ifCond .ge 22, 29), (29, .iload_n 1, 30), (30, .bipush (-2), 32), (32, .if_icmp .ne 11, 35), (35, .aload_n 0, 36), (36, .getfield 249, 39), (39, .l2i, 40), (40, .goto 7, 43), (43, .aload_n 0, 44), (44, .getfield 246, 47), (47, .ireturn, 48), (48, .iload_n 1, 49), (49, .i2l, 50), (50, .aload_n 0, 51), (51, .getfield 246, 54), (54, .i2l, 55), (55, .lmul, 56), (56, .lstore_n 2, 57), (57, .iconst 0, 58), (58, .istore 4, 60), (60, .aload_n 0, 61), (61, .getfield 148, 64), (64, .iconst 0, 65), (65, .iaload, 66), (66, .i2l, 67), (67, .lstore 5, 69), (69, .lload 5, 71), (71, .lconst 0, 72), (72, .lcmp, 73), (73, .ifCond .eq 14, 76), (76, .ldc2_w 310, 79), (79, .lload 5, 81), (81, .lmul, 82), (82, .lload_n 2, 83), (83, .lcmp, 84), (84, .ifCond .ge 22, 87), (87, .iinc 4 1, 90), (90, .lload 5, 92), (92, .aload_n 0, 93), (93, .getfield 148, 96), (96, .iload 4, 98), (98, .iaload, 99), (99, .i2l, 100), (100, .ladd, 101), (101, .lstore 5, 103), (103, .goto (-34), 106), (106, .iload 4, 108), (108, .ireturn, 109)]
theorem dec_200_0 : ((il_200.drop 0).take 50).all (fun q => decide (decode prog_14_method_35_code q.1 = .ok (q.2.1, q.2.2 - q.1))) = true := by decide +kernel
theorem dec_200_50 : ((il_200.drop 50).take 50).all (fun q => decide (decode prog_14_method_35_code q.1 = .ok (q.2.1, q.2.2 - q.1))) = true := by decide +kernel
-- 201: PipelineSimulator$Plain.follow(LPipelineSimulator$Simulation;III)V
def il_201 : List (Nat × Instr × Nat) := [(0, .aload_n 0, 1), (1, .iload_n 1, 2), (2, .invokevirtual 24, 5), (5, .astore 4, 7), (7, .iload_n 1, 8), (8, .bipush 6, 10), (10, .if_icmp .ge 8, 13), (13, .aload 4, 15), (15, .ifnonnull 4, 18), (18, .return_, 19), (19, .aload 4, 21), (21, .getfield 62, 24), (24, .astore 5, 26), (26, .aload 5, 28), (28, .invokevirtual 65, 31), (31, .aload 4, 33), (33, .aload 4, 35), (35, .getfield 28, 38), (38, .iload_n 2, 39), (39, .iload_n 3, 40), (40, .iconst 0, 41), (41, .aload 5, 43), (43, .invokevirtual 66, 46), (46, .aload 5, 48), (48, .getfield 70, 51), (51, .istore 6, 53), (53, .iconst 0, 54), (54, .istore 7, 56), (56, .iload 7, 58), (58, .iload 6, 60), (60, .if_icmp .ge 30, 63), (63, .aload_n 0, 64), (64, .iload_n 1, 65), (65, .iconst 1, 66), (66, .iadd, 67), (67, .aload 5, 69), (69, .iload 7, 71), (71, .invokevirtual 49, 74), (74, .aload 5, 76), (76, .iload 7, 78), (78, .invokevirtual 55, 81), (81, .invokestatic 58, 84), (84, .iinc 7 1, 87), (87, .goto (-31), 90), (90, .return_, 91)]
theorem dec_201_0 : ((il_201.drop 0).take 50).all (fun q => decide (decode prog_8_method_4_code q.1 = .ok (q.2.1, q.2.2 - q.1))) = true := by decide +kernel
-- 202: PipelineSimulator$Plain.catchUp()V
def il_202 : List (Nat × Instr × Nat) := [(0, .aload_n 0, 1), (1, .getfield 15, 4), (4, .aload_n 0, 5), (5, .getfield 9, 8), (8, .getfield 39, 11), (11, .if_icmp .le 7, 14), (14, .aload_n 0, 15), (15, .invokevirtual 42, 18), (18, .aload_n 0, 19), (19, .getfield 9, 22), (22, .getfield 45, 25), (25, .astore_n 1, 26), (26, .aload_n 0, 27), (27, .getfield 15, 30), (30, .istore_n 2, 31), (31, .iload_n 2, 32), (32, .aload_n 0, 33), (33, .getfield 9, 36), (36, .getfield 39, 39), (39, .if_icmp .ge 27, 42), (42, .aload_n 0, 43), (43, .getfield 9, 46), (46, .iconst 1, 47), (47, .aload_n 1, 48), (48, .iload_n 2, 49), (49, .invokevirtual 49, 52), (52, .aload_n 1, 53), (53, .iload_n 2, 54), (54, .invokevirtual 55, 57), (57, .invokestatic 58, 60), (60, .iinc 2 1, 63), (63, .goto (-32), 66), (66, .aload_n 0, 67), (67, .aload_n 0, 68), (68, .getfield 9, 71), (71, .getfield 39, 74), (74, .putfield 15, 77), (77, .return_, 78)]
theorem dec_202_0 : ((il_202.drop 0).take 50).all (fun q => decide (decode prog_8_method_3_code q.1 = .ok (q.2.1, q.2.2 - q.1))) = true := by decide +kernel
-- 203: PipelineSimulator.plain(II)I
def il_203 : List (Nat × Instr × Nat) := [(0, .aload_n 0, 1), (1, .getfield 31, 4), (4, .aload_n 0, 5), (5, .getfield 31, 8), (8, .getfield 80, 11), (11, .iconst 1, 12), (12, .iadd, 13), (13, .invokevirtual 133, 16), (16, .astore_n 3, 17), (17, .aload_n 3, 18), (18, .ifnonnull 6, 21), (21, .ldc 137, 23), (23, .ireturn, 24), (24, .aload_n 0, 25), (25, .getfield 40, 28), (28, .invokevirtual 256, 31), (31, .aload_n 3, 32), (32, .getfield 259, 35), (35, .iload_n 1, 36), (36, .iload_n 2, 37), (37, .invokestatic 234, 40), (40, .ireturn, 41)]
theorem dec_203_0 : ((il_203.drop 0).take 50).all (fun q => decide (decode prog_1_method_18_code q.1 = .ok (q.2.1, q.2.2 - q.1))) = true := by decide +kernel
-- 204: PipelineSimulatorModel.plainly()V
def il_204 : List (Nat × Instr × Nat) := [(0, .iconst 0, 1), (1, .istore_n 1, 2), (2, .iload_n 1, 3), (3, .bipush 96, 5), (5, .if_icmp .ge 16, 8), (8, .aload_n 0, 9), (9, .getfield 169, 12), (12, .iload_n 1, 13), (13, .iconst 0, 14), (14, .bastore, 15), (15, .iinc 1 1, 18), (18, .goto (-16), 21), (21, .iconst 0, 22), (22, .istore_n 1, 23), (23, .iload_n 1, 24), (24, .aload_n 0, 25), (25, .getfield 271, 28), (28, .if_icmp .ge 145, 31), (31, .iconst 1, 32), (32, .istore_n 2, 33), (33, .aload_n 0, 34), (34, .getfield 178, 37), (37, .iconst 0, 38), (38, .iconst 1, 39), (39, .iastore, 40), (40, .aload_n 0, 41), (41, .getfield 181, 44), (44, .iconst 0, 45), (45, .aload_n 0, 46), (46, .getfield 38, 49), (49, .iload_n 1, 50), (50, .iaload, 51), (51, .iastore, 52), (52, .aload_n 0, 53), (53, .getfield 184, 56), (56, .iconst 0, 57), (57, .aload_n 0, 58), (58, .getfield 41, 61), (61, .iload_n 1, 62), (62, .iaload, 63), (63, .iastore, 64), (64, .iload_n 2, 65), (65, .ifCond .le 102, 68), (68, .iinc 2 (-1), 71), (71, .aload_n 0, 72), (72, .getfield 178, 75), (75, .iload_n 2, 76), (76, .iaload, 77), (77, .istore_n 3, 78), (78, .aload_n 0, 79), (79, .iload_n 3, 80), (80, .aload_n 0, 81), (81, .getfield 181, 84), (84, .iload_n 2, 85), (85, .iaload, 86), (86, .aload_n 0, 87), (87, .getfield 184, 90), (90, .iload_n 2, 91), (91, .iaload, 92), (92, .aload_n 0, 93), (93, .getfield 169, 96), (96, .aload_n 0, 97), (97, .getfield 172, 100), (100, .aload_n 0, 101), (101, .getfield 175, 104), (104, .invokevirtual 301, 107), (107, .aload_n 0, 108), (108, .getfield 291, 111), (111, .iconst 1, 112), (112, .isub, 113), (113, .istore 4, 115), (115, .iload 4, 117), (117, .ifCond .lt 47, 120), (120, .aload_n 0, 121), (121, .getfield 178, 124), (124, .iload_n 2, 125), (125, .iload_n 3, 126), (126, .iconst 1, 127), (127, .iadd, 128), (128, .iastore, 129), (129, .aload_n 0, 130), (130, .getfield 181, 133), (133, .iload_n 2, 134), (134, .aload_n 0, 135), (135, .getfield 163, 138), (138, .iload 4, 140), (140, .iaload, 141), (141, .iastore, 142), (142, .aload_n 0, 143), (143, .getfield 184, 146), (146, .iload_n 2, 147), (147, .aload_n 0, 148), (148, .getfield 166, 151), (151, .iload 4, 153), (153, .iaload, 154), (154, .iastore, 155), (155, .iinc 2 1, 158), (158, .iinc 4 (-1), 161), (161, .goto (-46), 164), (164, .goto (-100), 167), (167, .iinc 1 1, 170), (170, .goto (-147), 173), (173, .return_, 174)]
theorem dec_204_0 : ((il_204.drop 0).take 50).all (fun q => decide (decode prog_14_method_59_code q.1 = .ok (q.2.1, q.2.2 - q.1))) = true := by decide +kernel
theorem dec_204_50 : ((il_204.drop 50).take 50).all (fun q => decide (decode prog_14_method_59_code q.1 = .ok (q.2.1, q.2.2 - q.1))) = true := by decide +kernel
theorem dec_204_100 : ((il_204.drop 100).take 50).all (fun q => decide (decode prog_14_method_59_code q.1 = .ok (q.2.1, q.2.2 - q.1))) = true := by decide +kernel
-- 205: PipelineSimulatorModel.plain(II)I
def il_205 : List (Nat × Instr × Nat) := [(0, .aload_n 0, 1), (1, .invokevirtual 390, 4), (4, .aload_n 0, 5), (5, .aload_n 0, 6), (6, .invokevirtual 199, 9), (9, .iload_n 1, 10), (10, .iload_n 2, 11), (11, .aload_n 0, 12), (12, .getfield 169, 15), (15, .aload_n 0, 16), (16, .getfield 172, 19), (19, .aload_n 0, 20), (20, .getfield 175, 23), (23, .invokevirtual 386, 26), (26, .ireturn, 27)]
theorem dec_205_0 : ((il_205.drop 0).take 50).all (fun q => decide (decode prog_14_method_60_code q.1 = .ok (q.2.1, q.2.2 - q.1))) = true := by decide +kernel
-- 206: PipelineSimulator$Explanation.reasonOf(II)I
def il_206 : List (Nat × Instr × Nat) := [(0, .aload_n 0, 1), (1, .getfield 18, 4), (4, .iload_n 1, 5), (5, .iload_n 2, 6), (6, .invokevirtual 34, 9), (9, .astore_n 3, 10), (10, .aload_n 3, 11), (11, .ifnonnull 5, 14), (14, .iconst 5, 15), (15, .ireturn, 16), (16, .aload_n 0, 17), (17, .getfield 18, 20), (20, .iload_n 1, 21), (21, .iload_n 2, 22), (22, .aload_n 0, 23), (23, .getfield 18, 26), (26, .iload_n 1, 27), (27, .aload_n 3, 28), (28, .invokevirtual 40, 31), (31, .invokevirtual 44, 34), (34, .astore 4, 36), (36, .aload 4, 38), (38, .ifnull 13, 41), (41, .aload 4, 43), (43, .invokevirtual 48, 46), (46, .ifCond .ne 5, 49), (49, .iconst 1, 50), (50, .ireturn, 51), (51, .aload_n 3, 52), (52, .getfield 54, 55), (55, .ifCond .eq 17, 58), (58, .aload_n 0, 59), (59, .getfield 18, 62), (62, .iload_n 1, 63), (63, .iload_n 2, 64), (64, .invokevirtual 60, 67), (67, .ifCond .lt 5, 70), (70, .iconst 2, 71), (71, .ireturn, 72), (72, .iload_n 1, 73), (73, .ifCond .ne 29, 76), (76, .aload_n 0, 77), (77, .getfield 18, 80), (80, .getfield 63, 83), (83, .aload_n 0, 84), (84, .getfield 18, 87), (87, .getfield 66, 90), (90, .getfield 70, 93), (93, .if_icmp .ge 7, 96), (96, .iconst 5, 97), (97, .goto 4, 100), (100, .iconst 4, 101), (101, .ireturn, 102), (102, .aload_n 0, 103), (103, .getfield 18, 106), (106, .iload_n 1, 107), (107, .iload_n 2, 108), (108, .invokevirtual 75, 111), (111, .ifCond .lt 5, 114), (114, .iconst 5, 115), (115, .ireturn, 116), (116, .aload_n 3, 117), (117, .getfield 78, 120), (120, .ifCond .eq 7, 123), (123, .iconst 3, 124), (124, .goto 4, 127), (127, .iconst 4, 128), (128, .ireturn, 129)]
theorem dec_206_0 : ((il_206.drop 0).take 50).all (fun q => decide (decode prog_3_method_3_code q.1 = .ok (q.2.1, q.2.2 - q.1))) = true := by decide +kernel
theorem dec_206_50 : ((il_206.drop 50).take 50).all (fun q => decide (decode prog_3_method_3_code q.1 = .ok (q.2.1, q.2.2 - q.1))) = true := by decide +kernel
-- 207: PipelineSimulator$Explanation.lowestRunning(I)I
def il_207 : List (Nat × Instr × Nat) := [(0, .iconst 0, 1), (1, .istore_n 1, 2), (2, .iload_n 1, 3), (3, .iconst 3, 4), (4, .if_icmp .ge 19, 7), (7, .iload_n 0, 8), (8, .iload_n 1, 9), (9, .ishr, 10), (10, .iconst 1, 11), (11, .iand, 12), (12, .ifCond .ne 5, 15), (15, .iload_n 1, 16), (16, .ireturn, 17), (17, .iinc 1 1, 20), (20, .goto (-18), 23), (23, .iconst (-1), 24), (24, .ireturn, 25)]
theorem dec_207_0 : ((il_207.drop 0).take 50).all (fun q => decide (decode prog_3_method_5_code q.1 = .ok (q.2.1, q.2.2 - q.1))) = true := by decide +kernel
-- 208: PipelineSimulator$Explanation.awaited(III)I
def il_208 : List (Nat × Instr × Nat) := [(0, .aload_n 0, 1), (1, .getfield 18, 4), (4, .iload_n 1, 5), (5, .iload_n 2, 6), (6, .invokevirtual 34, 9), (9, .astore 4, 11), (11, .aload 4, 13), (13, .ifnonnull 5, 16), (16, .iconst (-1), 17), (17, .ireturn, 18), (18, .iload_n 3, 19), (19, .lookupswitch 46 #[(1, 25), (2, 36)], 44), (44, .aload_n 0, 45), (45, .getfield 18, 48), (48, .iload_n 1, 49), (49, .aload 4, 51), (51, .invokevirtual 40, 54), (54, .ireturn, 55), (55, .aload_n 0, 56), (56, .getfield 18, 59), (59, .iload_n 1, 60), (60, .iload_n 2, 61), (61, .invokevirtual 60, 64), (64, .ireturn, 65), (65, .aload 4, 67), (67, .getfield 78, 70), (70, .invokestatic 81, 73), (73, .ireturn, 74)]
theorem dec_208_0 : ((il_208.drop 0).take 50).all (fun q => decide (decode prog_3_method_4_code q.1 = .ok (q.2.1, q.2.2 - q.1))) = true := by decide +kernel
-- 209: PipelineSimulator$Explanation.begin(II)I
def il_209 : List (Nat × Instr × Nat) := [(0, .iload_n 1, 1), (1, .istore_n 3, 2), (2, .iload_n 2, 3), (3, .istore 4, 5), (5, .iconst 0, 6), (6, .istore 5, 8), (8, .iload 5, 10), (10, .bipush 8, 12), (12, .if_icmp .ge 91, 15), (15, .aload_n 0, 16), (16, .iload_n 3, 17), (17, .iload 4, 19), (19, .invokevirtual 22, 22), (22, .istore 6, 24), (24, .aload_n 0, 25), (25, .getfield 9, 28), (28, .iload 5, 30), (30, .bipush 10, 32), (32, .iload_n 3, 33), (33, .imul, 34), (34, .iload 4, 36), (36, .iadd, 37), (37, .iastore, 38), (38, .aload_n 0, 39), (39, .getfield 15, 42), (42, .iload 5, 44), (44, .iload 6, 46), (46, .iastore, 47), (47, .aload_n 0, 48), (48, .iload 5, 50), (50, .iconst 1, 51), (51, .iadd, 52), (52, .putfield 26, 55), (55, .iload 6, 57), (57, .iconst 4, 58), (58, .if_icmp .eq 45, 61), (61, .iload 6, 63), (63, .iconst 5, 64), (64, .if_icmp .ne 6, 67), (67, .goto 36, 70), (70, .aload_n 0, 71), (71, .iload_n 3, 72), (72, .iload 4, 74), (74, .iload 6, 76), (76, .invokevirtual 30, 79), (79, .istore 4, 81), (81, .iload 6, 83), (83, .iconst 3, 84), (84, .if_icmp .ne 9, 87), (87, .iload_n 3, 88), (88, .iconst 1, 89), (89, .isub, 90), (90, .goto 6, 93), (93, .iload_n 3, 94), (94, .iconst 1, 95), (95, .iadd, 96), (96, .istore_n 3, 97), (97, .iinc 5 1, 100), (100, .goto (-92), 103), (103, .aload_n 0, 104), (104, .getfield 26, 107), (107, .ireturn, 108)]
theorem dec_209_0 : ((il_209.drop 0).take 50).all (fun q => decide (decode prog_3_method_2_code q.1 = .ok (q.2.1, q.2.2 - q.1))) = true := by decide +kernel
theorem dec_209_50 : ((il_209.drop 50).take 50).all (fun q => decide (decode prog_3_method_2_code q.1 = .ok (q.2.1, q.2.2 - q.1))) = true := by decide +kernel
-- 210: PipelineSimulator.explain(II)I
def il_210 : List (Nat × Instr × Nat) := [(0, .aload_n 0, 1), (1, .getfield 31, 4), (4, .iload_n 1, 5), (5, .iload_n 2, 6), (6, .invokevirtual 184, 9), (9, .ifnonnull 6, 12), (12, .ldc 137, 14), (14, .ireturn, 15), (15, .aload_n 0, 16), (16, .getfield 47, 19), (19, .iload_n 1, 20), (20, .iload_n 2, 21), (21, .invokevirtual 262, 24), (24, .ireturn, 25)]
theorem dec_210_0 : ((il_210.drop 0).take 50).all (fun q => decide (decode prog_1_method_19_code q.1 = .ok (q.2.1, q.2.2 - q.1))) = true := by decide +kernel
-- 211: PipelineSimulatorModel.reasonOf(II)I
def il_211 : List (Nat × Instr × Nat) := [(0, .iload_n 1, 1), (1, .iload_n 2, 2), (2, .invokestatic 288, 5), (5, .istore_n 3, 6), (6, .aload_n 0, 7), (7, .getfield 93, 10), (10, .iload_n 3, 11), (11, .iaload, 12), (12, .ifCond .le 49, 15), (15, .aload_n 0, 16), (16, .iload_n 1, 17), (17, .iload_n 2, 18), (18, .aload_n 0, 19), (19, .iload_n 1, 20), (20, .iload_n 2, 21), (21, .aload_n 0, 22), (22, .getfield 96, 25), (25, .iconst 3, 26), (26, .iload_n 3, 27), (27, .imul, 28), (28, .iaload, 29), (29, .invokevirtual 344, 32), (32, .invokestatic 324, 35), (35, .invokevirtual 347, 38), (38, .ifCond .ne 23, 41), (41, .aload_n 0, 42), (42, .aload_n 0, 43), (43, .iload_n 1, 44), (44, .iload_n 2, 45), (45, .aload_n 0, 46), (46, .getfield 96, 49), (49, .iconst 3, 50), (50, .iload_n 3, 51), (51, .imul, 52), (52, .iaload, 53), (53, .invokevirtual 344, 56), (56, .putfield 393, 59), (59, .iconst 1, 60), (60, .ireturn, 61), (61, .aload_n 0, 62), (62, .getfield 111, 65), (65, .iload_n 3, 66), (66, .baload, 67), (67, .ifCond .eq 24, 70), (70, .aload_n 0, 71), (71, .iload_n 1, 72), (72, .iload_n 2, 73), (73, .invokevirtual 354, 76), (76, .ifCond .lt 15, 79), (79, .aload_n 0, 80), (80, .aload_n 0, 81), (81, .iload_n 1, 82), (82, .iload_n 2, 83), (83, .invokevirtual 354, 86), (86, .putfield 393, 89), (89, .iconst 2, 90), (90, .ireturn, 91), (91, .iload_n 1, 92), (92, .ifCond .ne 20, 95), (95, .aload_n 0, 96), (96, .getfield 271, 99), (99, .aload_n 0, 100), (100, .getfield 275, 103), (103, .if_icmp .ne 7, 106), (106, .iconst 4, 107), (107, .goto 4, 110), (110, .iconst 5, 111), (111, .ireturn, 112), (112, .aload_n 0, 113), (113, .iload_n 1, 114), (114, .iload_n 2, 115), (115, .invokevirtual 328, 118), (118, .ifCond .lt 5, 121), (121, .iconst 5, 122), (122, .ireturn, 123), (123, .aload_n 0, 124), (124, .getfield 105, 127), (127, .iload_n 3, 128), (128, .iaload, 129), (129, .ifCond .ne 5, 132), (132, .iconst 4, 133), (133, .ireturn, 134), (134, .aload_n 0, 135), (135, .iconst 0, 136), (136, .putfield 393, 139), (139, .aload_n 0, 140), (140, .getfield 105, 143), (143, .iload_n 3, 144), (144, .iaload, 145), (145, .aload_n 0, 146), (146, .getfield 393, 149), (149, .ishr, 150), (150, .iconst 1, 151), (151, .iand, 152), (152, .iconst 1, 153), (153, .if_icmp .ne 16, 156), (156, .aload_n 0, 157), (157, .dup, 158), (158, .getfield 393, 161), (161, .iconst 1, 162), (162, .iadd, 163), (163, .putfield 393, 166), (166, .goto (-27), 169), (169, .iconst 3, 170), (170, .ireturn, 171)]
theorem dec_211_0 : ((il_211.drop 0).take 50).all (fun q => decide (decode prog_14_method_61_code q.1 = .ok (q.2.1, q.2.2 - q.1))) = true := by decide +kernel
theorem dec_211_50 : ((il_211.drop 50).take 50).all (fun q => decide (decode prog_14_method_61_code q.1 = .ok (q.2.1, q.2.2 - q.1))) = true := by decide +kernel
theorem dec_211_100 : ((il_211.drop 100).take 50).all (fun q => decide (decode prog_14_method_61_code q.1 = .ok (q.2.1, q.2.2 - q.1))) = true := by decide +kernel
-- 212: PipelineSimulatorModel.explain(II)I
def il_212 : List (Nat × Instr × Nat) := [(0, .aload_n 0, 1), (1, .iload_n 1, 2), (2, .invokevirtual 377, 5), (5, .ifCond .eq 19, 8), (8, .iload_n 2, 9), (9, .iconst 0, 10), (10, .aload_n 0, 11), (11, .getfield 22, 14), (14, .iload_n 1, 15), (15, .iaload, 16), (16, .iconst 1, 17), (17, .isub, 18), (18, .invokestatic 203, 21), (21, .ifCond .ne 7, 24), (24, .ldc_w 309, 27), (27, .ireturn, 28), (28, .aload_n 0, 29), (29, .iconst 0, 30), (30, .putfield 396, 33), (33, .iload_n 1, 34), (34, .istore_n 3, 35), (35, .iload_n 2, 36), (36, .istore 4, 38), (38, .iconst 1, 39), (39, .istore 5, 41), (41, .iload 5, 43), (43, .ifCond .eq 94, 46), (46, .aload_n 0, 47), (47, .iload_n 3, 48), (48, .iload 4, 50), (50, .invokevirtual 399, 53), (53, .istore 6, 55), (55, .aload_n 0, 56), (56, .getfield 187, 59), (59, .aload_n 0, 60), (60, .getfield 396, 63), (63, .bipush 10, 65), (65, .iload_n 3, 66), (66, .imul, 67), (67, .iload 4, 69), (69, .iadd, 70), (70, .iastore, 71), (71, .aload_n 0, 72), (72, .getfield 190, 75), (75, .aload_n 0, 76), (76, .getfield 396, 79), (79, .iload 6, 81), (81, .iastore, 82), (82, .aload_n 0, 83), (83, .dup, 84), (84, .getfield 396, 87), (87, .iconst 1, 88), (88, .iadd, 89), (89, .putfield 396, 92), (92, .iload 6, 94), (94, .iconst 4, 95), (95, .if_icmp .ge 16, 98), (98, .aload_n 0, 99), (99, .getfield 396, 102), (102, .bipush 8, 104), (104, .if_icmp .ge 7, 107), (107, .iconst 1, 108), (108, .goto 4, 111), (111, .iconst 0, 112), (112, .istore 5, 114), (114, .iload_n 3, 115), (115, .iload 6, 117), (117, .iconst 3, 118), (118, .if_icmp .ge 7, 121), (121, .iconst 1, 122), (122, .goto 4, 125), (125, .iconst (-1), 126), (126, .iadd, 127), (127, .istore_n 3, 128), (128, .aload_n 0, 129), (129, .getfield 393, 132), (132, .istore 4, 134), (134, .goto (-93), 137), (137, .aload_n 0, 138), (138, .getfield 396, 141), (141, .ireturn, 142)]
theorem dec_212_0 : ((il_212.drop 0).take 50).all (fun q => decide (decode prog_14_method_62_code q.1 = .ok (q.2.1, q.2.2 - q.1))) = true := by decide +kernel
theorem dec_212_50 : ((il_212.drop 50).take 50).all (fun q => decide (decode prog_14_method_62_code q.1 = .ok (q.2.1, q.2.2 - q.1))) = true := by decide +kernel
-- 213: PipelineSimulator.explanation(II)I
def il_213 : List (Nat × Instr × Nat) := [(0, .iload_n 1, 1), (1, .ifCond .lt 20, 4), (4, .iload_n 1, 5), (5, .aload_n 0, 6), (6, .getfield 47, 9), (9, .getfield 265, 12), (12, .if_icmp .ge 9, 15), (15, .iload_n 1, 16), (16, .bipush 8, 18), (18, .if_icmp .lt 6, 21), (21, .ldc 137, 23), (23, .ireturn, 24), (24, .iload_n 2, 25), (25, .lookupswitch 47 #[(0, 27), (1, 37)], 52), (52, .aload_n 0, 53), (53, .getfield 47, 56), (56, .getfield 268, 59), (59, .iload_n 1, 60), (60, .iaload, 61), (61, .ireturn, 62), (62, .aload_n 0, 63), (63, .getfield 47, 66), (66, .getfield 272, 69), (69, .iload_n 1, 70), (70, .iaload, 71), (71, .ireturn, 72), (72, .ldc 51, 74), (74, .ireturn, 75)]
theorem dec_213_0 : ((il_213.drop 0).take 50).all (fun q => decide (decode prog_1_method_20_code q.1 = .ok (q.2.1, q.2.2 - q.1))) = true := by decide +kernel
-- 214: PipelineSimulatorModel.explanation(II)I
def il_214 : List (Nat × Instr × Nat) := [(0, .iload_n 1, 1), (1, .iconst 0, 2), (2, .aload_n 0, 3), (3, .getfield 396, 6), (6, .iconst 1, 7), (7, .isub, 8), (8, .invokestatic 203, 11), (11, .ifCond .ne 7, 14), (14, .ldc_w 309, 17), (17, .ireturn, 18), (18, .iload_n 2, 19), (19, .iconst 0, 20), (20, .iconst 1, 21), (21, .invokestatic 203, 24), (24, .ifCond .ne 8, 27), (27, .ldc 207, 29), (29, .goto 22, 32), (32, .iload_n 2, 33), (33, .ifCond .ne 12, 36), (36, .aload_n 0, 37), (37, .getfield 187, 40), (40, .iload_n 1, 41), (41, .iaload, 42), (42, .goto 9, 45), (45, .aload_n 0, 46), (46, .getfield 190, 49), (49, .iload_n 1, 50), (50, .iaload, 51), (51, .ireturn, 52)]
theorem dec_214_0 : ((il_214.drop 0).take 50).all (fun q => decide (decode prog_14_method_63_code q.1 = .ok (q.2.1, q.2.2 - q.1))) = true := by decide +kernel
-- 215: java/lang/StringLatin1.charAt([BI)C
def il_215 : List (Nat × Instr × Nat) := [(0, .iload_n 1, 1), (1, .aload_n 0, 2), (2, .arraylength, 3), (3, .invokestatic 9, 6), (6, .aload_n 0, 7), (7, .iload_n 1, 8), (8, .baload, 9), (9, .sipush 255, 12), (12, .iand, 13), (13, .i2c, 14), (14, .ireturn, 15)]
theorem dec_215_0 : ((il_215.drop 0).take 50).all (fun q => decide (decode prog_23_method_2_code q.1 = .ok (q.2.1, q.2.2 - q.1))) = true := by decide +kernel
-- 216: java/lang/String.charAt(I)C
def il_216 : List (Nat × Instr × Nat) := [(0, .aload_n 0, 1), (1, .invokevirtual 492, 4), (4, .ifCond .eq 12, 7), (7, .aload_n 0, 8), (8, .getfield 9, 11), (11, .iload_n 1, 12), (12, .invokestatic 495, 15), (15, .ireturn, 16), (16, .aload_n 0, 17), (17, .getfield 9, 20), (20, .iload_n 1, 21), (21, .invokestatic 498, 24), (24, .ireturn, 25)]
theorem dec_216_0 : ((il_216.drop 0).take 50).all (fun q => decide (decode prog_21_method_56_code q.1 = .ok (q.2.1, q.2.2 - q.1))) = true := by decide +kernel
-- 217: java/lang/Integer.stringSize(I)I
def il_217 : List (Nat × Instr × Nat) := [(0, .iconst 1, 1), (1, .istore_n 1, 2), (2, .iload_n 0, 3), (3, .ifCond .lt 8, 6), (6, .iconst 0, 7), (7, .istore_n 1, 8), (8, .iload_n 0, 9), (9, .ineg, 10), (10, .istore_n 0, 11), (11, .bipush (-10), 13), (13, .istore_n 2, 14), (14, .iconst 1, 15), (15, .istore_n 3, 16), (16, .iload_n 3, 17), (17, .bipush 10, 19), (19, .if_icmp .ge 23, 22), (22, .iload_n 0, 23), (23, .iload_n 2, 24), (24, .if_icmp .le 7, 27), (27, .iload_n 3, 28), (28, .iload_n 1, 29), (29, .iadd, 30), (30, .ireturn, 31), (31, .bipush 10, 33), (33, .iload_n 2, 34), (34, .imul, 35), (35, .istore_n 2, 36), (36, .iinc 3 1, 39), (39, .goto (-23), 42), (42, .bipush 10, 44), (44, .iload_n 1, 45), (45, .iadd, 46), (46, .ireturn, 47)]
theorem dec_217_0 : ((il_217.drop 0).take 50).all (fun q => decide (decode prog_18_method_13_code q.1 = .ok (q.2.1, q.2.2 - q.1))) = true := by decide +kernel
-- 218: java/lang/Integer.getChars(II[B)I
def il_218 : List (Nat × Instr × Nat) := [(0, .iload_n 1, 1), (1, .istore 5, 3), (3, .iload_n 0, 4), (4, .ifCond .ge 7, 7), (7, .iconst 1, 8), (8, .goto 4, 11), (11, .iconst 0, 12), (12, .istore 6, 14), (14, .iload 6, 16), (16, .ifCond .ne 6, 19), (19, .iload_n 0, 20), (20, .ineg, 21), (21, .istore_n 0, 22), (22, .iload_n 0, 23), (23, .bipush (-100), 25), (25, .if_icmp .gt 47, 28), (28, .iload_n 0, 29), (29, .bipush 100, 31), (31, .idiv, 32), (32, .istore_n 3, 33), (33, .iload_n 3, 34), (34, .bipush 100, 36), (36, .imul, 37), (37, .iload_n 0, 38), (38, .isub, 39), (39, .istore 4, 41), (41, .iload_n 3, 42), (42, .istore_n 0, 43), (43, .aload_n 2, 44), (44, .iinc 5 (-1), 47), (47, .iload 5, 49), (49, .getstatic 83, 52), (52, .iload 4, 54), (54, .baload, 55), (55, .bastore, 56), (56, .aload_n 2, 57), (57, .iinc 5 (-1), 60), (60, .iload 5, 62), (62, .getstatic 87, 65), (65, .iload 4, 67), (67, .baload, 68), (68, .bastore, 69), (69, .goto (-47), 72), (72, .aload_n 2, 73), (73, .iinc 5 (-1), 76), (76, .iload 5, 78), (78, .getstatic 83, 81), (81, .iload_n 0, 82), (82, .ineg, 83), (83, .baload, 84), (84, .bastore, 85), (85, .iload_n 0, 86), (86, .bipush (-9), 88), (88, .if_icmp .ge 16, 91), (91, .aload_n 2, 92), (92, .iinc 5 (-1), 95), (95, .iload 5, 97), (97, .getstatic 87, 100), (100, .iload_n 0, 101), (101, .ineg, 102), (102, .baload, 103), (103, .bastore, 104), (104, .iload 6, 106), (106, .ifCond .eq 12, 109), (109, .aload_n 2, 110), (110, .iinc 5 (-1), 113), (113, .iload 5, 115), (115, .bipush 45, 117), (117, .bastore, 118), (118, .iload 5, 120), (120, .ireturn, 121)]
theorem dec_218_0 : ((il_218.drop 0).take 50).all (fun q => decide (decode prog_18_method_12_code q.1 = .ok (q.2.1, q.2.2 - q.1))) = true := by decide +kernel
theorem dec_218_50 : ((il_218.drop 50).take 50).all (fun q => decide (decode prog_18_method_12_code q.1 = .ok (q.2.1, q.2.2 - q.1))) = true := by decide +kernel
-- 219: java/lang/AbstractStringBuilder.append(I)Ljava/lang/AbstractStringBuilder;
def il_219 : List (Nat × Instr × Nat) := [(0, .aload_n 0, 1), (1, .getfield 79, 4), (4, .istore_n 2, 5), (5, .iload_n 2, 6), (6, .iload_n 1, 7), (7, .invokestatic 245, 10), (10, .iadd, 11), (11, .istore_n 3, 12), (12, .aload_n 0, 13), (13, .iload_n 3, 14), (14, .invokevirtual 100, 17), (17, .aload_n 0, 18), (18, .invokevirtual 83, 21), (21, .ifCond .eq 16, 24), (24, .iload_n 1, 25), (25, .iload_n 3, 26), (26, .aload_n 0, 27), (27, .getfield 15, 30), (30, .invokestatic 248, 33), (33, .pop, 34), (34, .goto 14, 37), (37, .iload_n 1, 38), (38, .iload_n 2, 39), (39, .iload_n 3, 40), (40, .aload_n 0, 41), (41, .getfield 15, 44), (44, .invokestatic 251, 47), (47, .pop, 48), (48, .aload_n 0, 49), (49, .iload_n 3, 50), (50, .putfield 79, 53), (53, .aload_n 0, 54), (54, .areturn, 55)]
theorem dec_219_0 : ((il_219.drop 0).take 50).all (fun q => decide (decode prog_15_method_32_code q.1 = .ok (q.2.1, q.2.2 - q.1))) = true := by decide +kernel
-- 220: java/lang/StringBuilder.append(I)Ljava/lang/StringBuilder;
def il_220 : List (Nat × Instr × Nat) := [(0, .aload_n 0, 1), (1, .iload_n 1, 2), (2, .invokespecial 53, 5), (5, .pop, 6), (6, .aload_n 0, 7), (7, .areturn, 8)]
theorem dec_220_0 : ((il_220.drop 0).take 50).all (fun q => decide (decode prog_22_method_15_code q.1 = .ok (q.2.1, q.2.2 - q.1))) = true := by decide +kernel
-- 221: PipelineSimulator.writeStage(LPipelineSimulator$Operator;)V
def il_221 : List (Nat × Instr × Nat) := [(0, .aload_n 1, 1), (1, .ifnull 23, 4), (4, .aload_n 1, 5), (5, .getfield 160, 8), (8, .ifCond .lt 16, 11), (11, .aload_n 1, 12), (12, .getfield 160, 15), (15, .ldc_w 307, 18), (18, .invokevirtual 309, 21), (21, .if_icmp .lt 4, 24), (24, .return_, 25), (25, .aload_n 0, 26), (26, .getfield 16, 29), (29, .ldc_w 307, 32), (32, .aload_n 1, 33), (33, .getfield 160, 36), (36, .invokevirtual 312, 39), (39, .invokevirtual 57, 42), (42, .pop, 43), (43, .aload_n 1, 44), (44, .getfield 160, 47), (47, .invokestatic 313, 50), (50, .istore_n 2, 51), (51, .iload_n 2, 52), (52, .ifCond .le 62, 55), (55, .aload_n 0, 56), (56, .getfield 16, 59), (59, .bipush 40, 61), (61, .invokevirtual 57, 64), (64, .pop, 65), (65, .aload_n 0, 66), (66, .getfield 16, 69), (69, .aload_n 1, 70), (70, .getfield 166, 73), (73, .invokevirtual 282, 76), (76, .pop, 77), (77, .iload_n 2, 78), (78, .iconst 1, 79), (79, .if_icmp .le 25, 82), (82, .aload_n 0, 83), (83, .getfield 16, 86), (86, .bipush 44, 88), (88, .invokevirtual 57, 91), (91, .pop, 92), (92, .aload_n 0, 93), (93, .getfield 16, 96), (96, .aload_n 1, 97), (97, .getfield 169, 100), (100, .invokevirtual 282, 103), (103, .pop, 104), (104, .aload_n 0, 105), (105, .getfield 16, 108), (108, .bipush 41, 110), (110, .invokevirtual 57, 113), (113, .pop, 114), (114, .aload_n 1, 115), (115, .getfield 165, 118), (118, .iconst 1, 119), (119, .if_icmp .le 15, 122), (122, .aload_n 0, 123), (123, .getfield 16, 126), (126, .aload_n 1, 127), (127, .getfield 165, 130), (130, .invokevirtual 282, 133), (133, .pop, 134), (134, .return_, 135)]
theorem dec_221_0 : ((il_221.drop 0).take 50).all (fun q => decide (decode prog_1_method_25_code q.1 = .ok (q.2.1, q.2.2 - q.1))) = true := by decide +kernel
theorem dec_221_50 : ((il_221.drop 50).take 50).all (fun q => decide (decode prog_1_method_25_code q.1 = .ok (q.2.1, q.2.2 - q.1))) = true := by decide +kernel
-- 222: PipelineSimulator.write()I
def il_222 : List (Nat × Instr × Nat) := [(0, .aload_n 0, 1), (1, .getfield 16, 4), (4, .iconst 0, 5), (5, .invokevirtual 65, 8), (8, .iconst 1, 9), (9, .istore_n 1, 10), (10, .iload_n 1, 11), (11, .aload_n 0, 12), (12, .getfield 31, 15), (15, .getfield 80, 18), (18, .if_icmp .gt 36, 21), (21, .iload_n 1, 22), (22, .iconst 1, 23), (23, .if_icmp .le 13, 26), (26, .aload_n 0, 27), (27, .getfield 16, 30), (30, .bipush 124, 32), (32, .invokevirtual 57, 35), (35, .pop, 36), (36, .aload_n 0, 37), (37, .aload_n 0, 38), (38, .getfield 31, 41), (41, .iload_n 1, 42), (42, .invokevirtual 133, 45), (45, .invokevirtual 275, 48), (48, .iinc 1 1, 51), (51, .goto (-41), 54), (54, .aload_n 0, 55), (55, .getfield 31, 58), (58, .aload_n 0, 59), (59, .getfield 31, 62), (62, .getfield 80, 65), (65, .iconst 1, 66), (66, .iadd, 67), (67, .invokevirtual 279, 70), (70, .istore_n 1, 71), (71, .iload_n 1, 72), (72, .iconst 1, 73), (73, .if_icmp .le 22, 76), (76, .aload_n 0, 77), (77, .getfield 16, 80), (80, .bipush 36, 82), (82, .invokevirtual 57, 85), (85, .pop, 86), (86, .aload_n 0, 87), (87, .getfield 16, 90), (90, .iload_n 1, 91), (91, .invokevirtual 282, 94), (94, .pop, 95), (95, .aload_n 0, 96), (96, .getfield 16, 99), (99, .invokevirtual 52, 102), (102, .ireturn, 103)]
theorem dec_222_0 : ((il_222.drop 0).take 50).all (fun q => decide (decode prog_1_method_21_code q.1 = .ok (q.2.1, q.2.2 - q.1))) = true := by decide +kernel
theorem dec_222_50 : ((il_222.drop 50).take 50).all (fun q => decide (decode prog_1_method_21_code q.1 = .ok (q.2.1, q.2.2 - q.1))) = true := by decide +kernel
-- 223: PipelineSimulatorModel.writes(I)V
def il_223 : List (Nat × Instr × Nat) := [(0, .aload_n 0, 1), (1, .getfield 193, 4), (4, .aload_n 0, 5), (5, .getfield 402, 8), (8, .iload_n 1, 9), (9, .iastore, 10), (10, .aload_n 0, 11), (11, .dup, 12), (12, .getfield 402, 15), (15, .iconst 1, 16), (16, .iadd, 17), (17, .putfield 402, 20), (20, .return_, 21)]
theorem dec_223_0 : ((il_223.drop 0).take 50).all (fun q => decide (decode prog_14_method_64_code q.1 = .ok (q.2.1, q.2.2 - q.1))) = true := by decide +kernel
-- 224: PipelineSimulatorModel.writesNumber(I)V
def il_224 : List (Nat × Instr × Nat) := [(0, .iload_n 1, 1), (1, .ifCond .ge 9, 4), (4, .aload_n 0, 5), (5, .bipush 45, 7), (7, .invokevirtual 405, 10), (10, .iload_n 1, 11), (11, .ifCond .ge 8, 14), (14, .iload_n 1, 15), (15, .ineg, 16), (16, .goto 4, 19), (19, .iload_n 1, 20), (20, .istore_n 2, 21), (21, .iload_n 2, 22), (22, .bipush 9, 24), (24, .if_icmp .le 14, 27), (27, .aload_n 0, 28), (28, .bipush 48, 30), (30, .iload_n 2, 31), (31, .bipush 10, 33), (33, .idiv, 34), (34, .iadd, 35), (35, .invokevirtual 405, 38), (38, .aload_n 0, 39), (39, .bipush 48, 41), (41, .iload_n 2, 42), (42, .bipush 10, 44), (44, .irem, 45), (45, .iadd, 46), (46, .invokevirtual 405, 49), (49, .return_, 50)]
theorem dec_224_0 : ((il_224.drop 0).take 50).all (fun q => decide (decode prog_14_method_65_code q.1 = .ok (q.2.1, q.2.2 - q.1))) = true := by decide +kernel
-- 225: PipelineSimulatorModel.write()I
def il_225 : List (Nat × Instr × Nat) := [(0, .aload_n 0, 1), (1, .iconst 0, 2), (2, .putfield 402, 5), (5, .iconst 1, 6), (6, .istore_n 1, 7), (7, .iload_n 1, 8), (8, .aload_n 0, 9), (9, .getfield 196, 12), (12, .if_icmp .gt 168, 15), (15, .aload_n 0, 16), (16, .getfield 13, 19), (19, .iload_n 1, 20), (20, .iaload, 21), (21, .istore_n 2, 22), (22, .iload_n 1, 23), (23, .iconst 1, 24), (24, .if_icmp .le 9, 27), (27, .aload_n 0, 28), (28, .bipush 124, 30), (30, .invokevirtual 405, 33), (33, .aload_n 0, 34), (34, .iload_n 2, 35), (35, .ifCond .ne 8, 38), (38, .bipush 109, 40), (40, .goto 55, 43), (43, .iload_n 2, 44), (44, .iconst 1, 45), (45, .if_icmp .ne 8, 48), (48, .bipush 102, 50), (50, .goto 45, 53), (53, .iload_n 2, 54), (54, .iconst 2, 55), (55, .if_icmp .ne 8, 58), (58, .bipush 107, 60), (60, .goto 35, 63), (63, .iload_n 2, 64), (64, .iconst 3, 65), (65, .if_icmp .ne 8, 68), (68, .bipush 99, 70), (70, .goto 25, 73), (73, .iload_n 2, 74), (74, .iconst 4, 75), (75, .if_icmp .ne 8, 78), (78, .bipush 115, 80), (80, .goto 15, 83), (83, .iload_n 2, 84), (84, .iconst 5, 85), (85, .if_icmp .ne 8, 88), (88, .bipush 100, 90), (90, .goto 5, 93), (93, .bipush 114, 95), (95, .invokevirtual 405, 98), (98, .iload_n 2, 99), (99, .iconst 5, 100), (100, .if_icmp .ge 51, 103), (103, .aload_n 0, 104), (104, .bipush 40, 106), (106, .invokevirtual 405, 109), (109, .aload_n 0, 110), (110, .aload_n 0, 111), (111, .getfield 16, 114), (114, .iload_n 1, 115), (115, .iaload, 116), (116, .invokevirtual 408, 119), (119, .iload_n 2, 120), (120, .iconst 3, 121), (121, .if_icmp .ge 9, 124), (124, .aload_n 0, 125), (125, .bipush 44, 127), (127, .invokevirtual 405, 130), (130, .iload_n 2, 131), (131, .iconst 3, 132), (132, .if_icmp .ge 13, 135), (135, .aload_n 0, 136), (136, .aload_n 0, 137), (137, .getfield 19, 140), (140, .iload_n 1, 141), (141, .iaload, 142), (142, .invokevirtual 408, 145), (145, .aload_n 0, 146), (146, .bipush 41, 148), (148, .invokevirtual 405, 151), (151, .aload_n 0, 152), (152, .getfield 22, 155), (155, .iload_n 1, 156), (156, .iaload, 157), (157, .iconst 1, 158), (158, .if_icmp .le 16, 161), (161, .aload_n 0, 162), (162, .bipush 48, 164), (164, .aload_n 0, 165), (165, .getfield 22, 168), (168, .iload_n 1, 169), (169, .iaload, 170), (170, .iadd, 171), (171, .invokevirtual 405, 174), (174, .iinc 1 1, 177), (177, .goto (-170), 180), (180, .aload_n 0, 181), (181, .getfield 22, 184), (184, .aload_n 0, 185), (185, .invokevirtual 199, 188), (188, .iaload, 189), (189, .iconst 1, 190), (190, .if_icmp .le 9, 193), (193, .aload_n 0, 194), (194, .bipush 36, 196), (196, .invokevirtual 405, 199), (199, .aload_n 0, 200), (200, .getfield 22, 203), (203, .aload_n 0, 204), (204, .invokevirtual 199, 207), (207, .iaload, 208), (208, .iconst 1, 209), (209, .if_icmp .le 19, 212), (212, .aload_n 0, 213), (213, .bipush 48, 215), (215, .aload_n 0, 216), (216, .getfield 22, 219), (219, .aload_n 0, 220), (220, .invokevirtual 199, 223), (223, .iaload, 224), (224, .iadd, 225), (225, .invokevirtual 405, 228), (228, .aload_n 0, 229), (229, .getfield 402, 232), (232, .ireturn, 233)]
theorem dec_225_0 : ((il_225.drop 0).take 50).all (fun q => decide (decode prog_14_method_66_code q.1 = .ok (q.2.1, q.2.2 - q.1))) = true := by decide +kernel
theorem dec_225_50 : ((il_225.drop 50).take 50).all (fun q => decide (decode prog_14_method_66_code q.1 = .ok (q.2.1, q.2.2 - q.1))) = true := by decide +kernel
theorem dec_225_100 : ((il_225.drop 100).take 50).all (fun q => decide (decode prog_14_method_66_code q.1 = .ok (q.2.1, q.2.2 - q.1))) = true := by decide +kernel
-- 226: PipelineSimulator.written(I)I
def il_226 : List (Nat × Instr × Nat) := [(0, .iload_n 1, 1), (1, .ifCond .lt 14, 4), (4, .iload_n 1, 5), (5, .aload_n 0, 6), (6, .getfield 16, 9), (9, .invokevirtual 52, 12), (12, .if_icmp .lt 8, 15), (15, .ldc 137, 17), (17, .goto 11, 20), (20, .aload_n 0, 21), (21, .getfield 16, 24), (24, .iload_n 1, 25), (25, .invokevirtual 285, 28), (28, .ireturn, 29)]
theorem dec_226_0 : ((il_226.drop 0).take 50).all (fun q => decide (decode prog_1_method_22_code q.1 = .ok (q.2.1, q.2.2 - q.1))) = true := by decide +kernel
-- 227: PipelineSimulatorModel.written(I)I
def il_227 : List (Nat × Instr × Nat) := [(0, .iload_n 1, 1), (1, .iconst 0, 2), (2, .aload_n 0, 3), (3, .getfield 402, 6), (6, .iconst 1, 7), (7, .isub, 8), (8, .invokestatic 203, 11), (11, .ifCond .eq 12, 14), (14, .aload_n 0, 15), (15, .getfield 193, 18), (18, .iload_n 1, 19), (19, .iaload, 20), (20, .goto 6, 23), (23, .ldc_w 309, 26), (26, .ireturn, 27)]
theorem dec_227_0 : ((il_227.drop 0).take 50).all (fun q => decide (decode prog_14_method_67_code q.1 = .ok (q.2.1, q.2.2 - q.1))) = true := by decide +kernel
-- 228: PipelineSimulator.clear()I
def il_228 : List (Nat × Instr × Nat) := [(0, .aload_n 0, 1), (1, .getfield 31, 4), (4, .getfield 101, 7), (7, .getfield 105, 10), (10, .istore_n 1, 11), (11, .aload_n 0, 12), (12, .getfield 31, 15), (15, .getfield 101, 18), (18, .invokevirtual 289, 21), (21, .aload_n 0, 22), (22, .getfield 31, 25), (25, .invokevirtual 292, 28), (28, .aload_n 0, 29), (29, .getfield 40, 32), (32, .invokevirtual 77, 35), (35, .iload_n 1, 36), (36, .ireturn, 37)]
theorem dec_228_0 : ((il_228.drop 0).take 50).all (fun q => decide (decode prog_1_method_23_code q.1 = .ok (q.2.1, q.2.2 - q.1))) = true := by decide +kernel
-- 229: PipelineSimulatorModel.clear()I
def il_229 : List (Nat × Instr × Nat) := [(0, .aload_n 0, 1), (1, .getfield 275, 4), (4, .istore_n 1, 5), (5, .aload_n 0, 6), (6, .iconst 0, 7), (7, .putfield 275, 10), (10, .aload_n 0, 11), (11, .invokevirtual 240, 14), (14, .iload_n 1, 15), (15, .ireturn, 16)]
theorem dec_229_0 : ((il_229.drop 0).take 50).all (fun q => decide (decode prog_14_method_19_code q.1 = .ok (q.2.1, q.2.2 - q.1))) = true := by decide +kernel
-- 230: PipelineSimulatorLaw.law([I)Z
def il_230 : List (Nat × Instr × Nat) := [(0, .new 7, 3), (3, .dup, 4), (4, .invokespecial 9, 7), (7, .astore_n 1, 8), (8, .new 10, 11), (11, .dup, 12), (12, .invokespecial 12, 15), (15, .astore_n 2, 16), (16, .iconst 0, 17), (17, .istore_n 3, 18), (18, .iload_n 3, 19), (19, .aload_n 0, 20), (20, .arraylength, 21), (21, .iconst 5, 22), (22, .isub, 23), (23, .if_icmp .gt 755, 26), (26, .aload_n 0, 27), (27, .iload_n 3, 28), (28, .iaload, 29), (29, .bipush 31, 31), (31, .iand, 32), (32, .tableswitch 740 0 21 #[104, 137, 150, 203, 236, 259, 272, 285, 298, 331, 354, 387, 430, 483, 526, 569, 592, 625, 658, 691, 704, 727], 136), (136, .aload_n 1, 137), (137, .aload_n 0, 138), (138, .iload_n 3, 139), (139, .iconst 1, 140), (140, .iadd, 141), (141, .iaload, 142), (142, .aload_n 0, 143), (143, .iload_n 3, 144), (144, .iconst 2, 145), (145, .iadd, 146), (146, .iaload, 147), (147, .invokevirtual 13, 150), (150, .aload_n 2, 151), (151, .aload_n 0, 152), (152, .iload_n 3, 153), (153, .iconst 1, 154), (154, .iadd, 155), (155, .iaload, 156), (156, .aload_n 0, 157), (157, .iload_n 3, 158), (158, .iconst 2, 159), (159, .iadd, 160), (160, .iaload, 161), (161, .invokevirtual 17, 164), (164, .if_icmp .eq 608, 167), (167, .iconst 0, 168), (168, .ireturn, 169), (169, .aload_n 1, 170), (170, .invokevirtual 18, 173), (173, .aload_n 2, 174), (174, .invokevirtual 22, 177), (177, .if_icmp .eq 595, 180), (180, .iconst 0, 181), (181, .ireturn, 182), (182, .aload_n 1, 183), (183, .aload_n 0, 184), (184, .iload_n 3, 185), (185, .iconst 1, 186), (186, .iadd, 187), (187, .iaload, 188), (188, .aload_n 0, 189), (189, .iload_n 3, 190), (190, .iconst 2, 191), (191, .iadd, 192), (192, .iaload, 193), (193, .aload_n 0, 194), (194, .iload_n 3, 195), (195, .iconst 3, 196), (196, .iadd, 197), (197, .iaload, 198), (198, .aload_n 0, 199), (199, .iload_n 3, 200), (200, .iconst 4, 201), (201, .iadd, 202), (202, .iaload, 203), (203, .invokevirtual 23, 206), (206, .aload_n 2, 207), (207, .aload_n 0, 208), (208, .iload_n 3, 209), (209, .iconst 1, 210), (210, .iadd, 211), (211, .iaload, 212), (212, .aload_n 0, 213), (213, .iload_n 3, 214), (214, .iconst 2, 215), (215, .iadd, 216), (216, .iaload, 217), (217, .aload_n 0, 218), (218, .iload_n 3, 219), (219, .iconst 3, 220), (220, .iadd, 221), (221, .iaload, 222), (222, .aload_n 0, 223), (223, .iload_n 3, 224), (224, .iconst 4, 225), (225, .iadd, 226), (226, .iaload, 227), (227, .invokevirtual 27, 230), (230, .if_icmp .eq 542, 233), (233, .iconst 0, 234), (234, .ireturn, 235), (235, .aload_n 1, 236), (236, .aload_n 0, 237), (237, .iload_n 3, 238), (238, .iconst 1, 239), (239, .iadd, 240), (240, .iaload, 241), (241, .aload_n 0, 242), (242, .iload_n 3, 243), (243, .iconst 2, 244), (244, .iadd, 245), (245, .iaload, 246), (246, .invokevirtual 28, 249), (249, .aload_n 2, 250), (250, .aload_n 0, 251), (251, .iload_n 3, 252), (252, .iconst 1, 253), (253, .iadd, 254), (254, .iaload, 255), (255, .aload_n 0, 256), (256, .iload_n 3, 257), (257, .iconst 2, 258), (258, .iadd, 259), (259, .iaload, 260), (260, .invokevirtual 31, 263), (263, .if_icmp .eq 509, 266), (266, .iconst 0, 267), (267, .ireturn, 268), (268, .aload_n 1, 269), (269, .aload_n 0, 270), (270, .iload_n 3, 271), (271, .iconst 1, 272), (272, .iadd, 273), (273, .iaload, 274), (274, .invokevirtual 32, 277), (277, .aload_n 2, 278), (278, .aload_n 0, 279), (279, .iload_n 3, 280), (280, .iconst 1, 281), (281, .iadd, 282), (282, .iaload, 283), (283, .invokevirtual 36, 286), (286, .if_icmp .eq 486, 289), (289, .iconst 0, 290), (290, .ireturn, 291), (291, .aload_n 1, 292), (292, .invokevirtual 37, 295), (295, .aload_n 2, 296), (296, .invokevirtual 40, 299), (299, .if_icmp .eq 473, 302), (302, .iconst 0, 303), (303, .ireturn, 304), (304, .aload_n 1, 305), (305, .invokevirtual 41, 308), (308, .aload_n 2, 309), (309, .invokevirtual 44, 312), (312, .if_icmp .eq 460, 315), (315, .iconst 0, 316), (316, .ireturn, 317), (317, .aload_n 1, 318), (318, .invokevirtual 45, 321), (321, .aload_n 2, 322), (322, .invokevirtual 48, 325), (325, .if_icmp .eq 447, 328), (328, .iconst 0, 329), (329, .ireturn, 330), (330, .aload_n 1, 331), (331, .aload_n 0, 332), (332, .iload_n 3, 333), (333, .iconst 1, 334), (334, .iadd, 335), (335, .iaload, 336), (336, .aload_n 0, 337), (337, .iload_n 3, 338), (338, .iconst 2, 339), (339, .iadd, 340), (340, .iaload, 341), (341, .invokevirtual 49, 344), (344, .aload_n 2, 345), (345, .aload_n 0, 346), (346, .iload_n 3, 347), (347, .iconst 1, 348), (348, .iadd, 349), (349, .iaload, 350), (350, .aload_n 0, 351), (351, .iload_n 3, 352), (352, .iconst 2, 353), (353, .iadd, 354), (354, .iaload, 355), (355, .invokevirtual 52, 358), (358, .if_icmp .eq 414, 361), (361, .iconst 0, 362), (362, .ireturn, 363), (363, .aload_n 1, 364), (364, .aload_n 0, 365), (365, .iload_n 3, 366), (366, .iconst 1, 367), (367, .iadd, 368), (368, .iaload, 369), (369, .invokevirtual 53, 372), (372, .aload_n 2, 373), (373, .aload_n 0, 374), (374, .iload_n 3, 375), (375, .iconst 1, 376), (376, .iadd, 377), (377, .iaload, 378), (378, .invokevirtual 56, 381), (381, .if_icmp .eq 391, 384), (384, .iconst 0, 385), (385, .ireturn, 386), (386, .aload_n 1, 387), (387, .aload_n 0, 388), (388, .iload_n 3, 389), (389, .iconst 1, 390), (390, .iadd, 391), (391, .iaload, 392), (392, .aload_n 0, 393), (393, .iload_n 3, 394), (394, .iconst 2, 395), (395, .iadd, 396), (396, .iaload, 397), (397, .invokevirtual 57, 400), (400, .aload_n 2, 401), (401, .aload_n 0, 402), (402, .iload_n 3, 403), (403, .iconst 1, 404), (404, .iadd, 405), (405, .iaload, 406), (406, .aload_n 0, 407), (407, .iload_n 3, 408), (408, .iconst 2, 409), (409, .iadd, 410), (410, .iaload, 411), (411, .invokevirtual 60, 414), (414, .if_icmp .eq 358, 417), (417, .iconst 0, 418), (418, .ireturn, 419), (419, .aload_n 1, 420), (420, .aload_n 0, 421), (421, .iload_n 3, 422), (422, .iconst 1, 423), (423, .iadd, 424), (424, .iaload, 425), (425, .aload_n 0, 426), (426, .iload_n 3, 427), (427, .iconst 2, 428), (428, .iadd, 429), (429, .iaload, 430), (430, .aload_n 0, 431), (431, .iload_n 3, 432), (432, .iconst 3, 433), (433, .iadd, 434), (434, .iaload, 435), (435, .invokevirtual 61, 438), (438, .aload_n 2, 439), (439, .aload_n 0, 440), (440, .iload_n 3, 441), (441, .iconst 1, 442), (442, .iadd, 443), (443, .iaload, 444), (444, .aload_n 0, 445), (445, .iload_n 3, 446), (446, .iconst 2, 447), (447, .iadd, 448), (448, .iaload, 449), (449, .aload_n 0, 450), (450, .iload_n 3, 451), (451, .iconst 3, 452), (452, .iadd, 453), (453, .iaload, 454), (454, .invokevirtual 65, 457), (457, .if_icmp .eq 315, 460), (460, .iconst 0, 461), (461, .ireturn, 462), (462, .aload_n 1, 463), (463, .aload_n 0, 464), (464, .iload_n 3, 465), (465, .iconst 1, 466), (466, .iadd, 467), (467, .iaload, 468), (468, .aload_n 0, 469), (469, .iload_n 3, 470), (470, .iconst 2, 471), (471, .iadd, 472), (472, .iaload, 473), (473, .aload_n 0, 474), (474, .iload_n 3, 475), (475, .iconst 3, 476), (476, .iadd, 477), (477, .iaload, 478), (478, .aload_n 0, 479), (479, .iload_n 3, 480), (480, .iconst 4, 481), (481, .iadd, 482), (482, .iaload, 483), (483, .invokevirtual 66, 486), (486, .aload_n 2, 487), (487, .aload_n 0, 488), (488, .iload_n 3, 489), (489, .iconst 1, 490), (490, .iadd, 491), (491, .iaload, 492), (492, .aload_n 0, 493), (493, .iload_n 3, 494), (494, .iconst 2, 495), (495, .iadd, 496), (496, .iaload, 497), (497, .aload_n 0, 498), (498, .iload_n 3, 499), (499, .iconst 3, 500), (500, .iadd, 501), (501, .iaload, 502), (502, .aload_n 0, 503), (503, .iload_n 3, 504), (504, .iconst 4, 505), (505, .iadd, 506), (506, .iaload, 507), (507, .invokevirtual 69, 510), (510, .if_icmp .eq 262, 513), (513, .iconst 0, 514), (514, .ireturn, 515), (515, .aload_n 1, 516), (516, .aload_n 0, 517), (517, .iload_n 3, 518), (518, .iconst 1, 519), (519, .iadd, 520), (520, .iaload, 521), (521, .aload_n 0, 522), (522, .iload_n 3, 523), (523, .iconst 2, 524), (524, .iadd, 525), (525, .iaload, 526), (526, .aload_n 0, 527), (527, .iload_n 3, 528), (528, .iconst 3, 529), (529, .iadd, 530), (530, .iaload, 531), (531, .invokevirtual 70, 534), (534, .aload_n 2, 535), (535, .aload_n 0, 536), (536, .iload_n 3, 537), (537, .iconst 1, 538), (538, .iadd, 539), (539, .iaload, 540), (540, .aload_n 0, 541), (541, .iload_n 3, 542), (542, .iconst 2, 543), (543, .iadd, 544), (544, .iaload, 545), (545, .aload_n 0, 546), (546, .iload_n 3, 547), (547, .iconst 3, 548), (548, .iadd, 549), (549, .iaload, 550), (550, .invokevirtual 73, 553), (553, .if_icmp .eq 219, 556), (556, .iconst 0, 557), (557, .ireturn, 558), (558, .aload_n 1, 559), (559, .aload_n 0, 560), (560, .iload_n 3, 561), (561, .iconst 1, 562), (562, .iadd, 563), (563, .iaload, 564), (564, .aload_n 0, 565), (565, .iload_n 3, 566), (566, .iconst 2, 567), (567, .iadd, 568), (568, .iaload, 569), (569, .aload_n 0, 570), (570, .iload_n 3, 571), (571, .iconst 3, 572), (572, .iadd, 573), (573, .iaload, 574), (574, .invokevirtual 74, 577), (577, .aload_n 2, 578), (578, .aload_n 0, 579), (579, .iload_n 3, 580), (580, .iconst 1, 581), (581, .iadd, 582), (582, .iaload, 583), (583, .aload_n 0, 584), (584, .iload_n 3, 585), (585, .iconst 2, 586), (586, .iadd, 587), (587, .iaload, 588), (588, .aload_n 0, 589), (589, .iload_n 3, 590), (590, .iconst 3, 591), (591, .iadd, 592), (592, .iaload, 593), (593, .invokevirtual 77, 596), (596, .if_icmp .eq 176, 599), (599, .iconst 0, 600), (600, .ireturn, 601), (601, .aload_n 1, 602), (602, .aload_n 0, 603), (603, .iload_n 3, 604), (604, .iconst 1, 605), (605, .iadd, 606), (606, .iaload, 607), (607, .invokevirtual 78, 610), (610, .aload_n 2, 611), (611, .aload_n 0, 612), (612, .iload_n 3, 613), (613, .iconst 1, 614), (614, .iadd, 615), (615, .iaload, 616), (616, .invokevirtual 81, 619), (619, .if_icmp .eq 153, 622), (622, .iconst 0, 623), (623, .ireturn, 624), (624, .aload_n 1, 625), (625, .aload_n 0, 626), (626, .iload_n 3, 627), (627, .iconst 1, 628), (628, .iadd, 629), (629, .iaload, 630), (630, .aload_n 0, 631), (631, .iload_n 3, 632), (632, .iconst 2, 633), (633, .iadd, 634), (634, .iaload, 635), (635, .invokevirtual 82, 638), (638, .aload_n 2, 639), (639, .aload_n 0, 640), (640, .iload_n 3, 641), (641, .iconst 1, 642), (642, .iadd, 643), (643, .iaload, 644), (644, .aload_n 0, 645), (645, .iload_n 3, 646), (646, .iconst 2, 647), (647, .iadd, 648), (648, .iaload, 649), (649, .invokevirtual 85, 652), (652, .if_icmp .eq 120, 655), (655, .iconst 0, 656), (656, .ireturn, 657), (657, .aload_n 1, 658), (658, .aload_n 0, 659), (659, .iload_n 3, 660), (660, .iconst 1, 661), (661, .iadd, 662), (662, .iaload, 663), (663, .aload_n 0, 664), (664, .iload_n 3, 665), (665, .iconst 2, 666), (666, .iadd, 667), (667, .iaload, 668), (668, .invokevirtual 86, 671), (671, .aload_n 2, 672), (672, .aload_n 0, 673), (673, .iload_n 3, 674), (674, .iconst 1, 675), (675, .iadd, 676), (676, .iaload, 677), (677, .aload_n 0, 678), (678, .iload_n 3, 679), (679, .iconst 2, 680), (680, .iadd, 681), (681, .iaload, 682), (682, .invokevirtual 89, 685), (685, .if_icmp .eq 87, 688), (688, .iconst 0, 689), (689, .ireturn, 690), (690, .aload_n 1, 691), (691, .aload_n 0, 692), (692, .iload_n 3, 693), (693, .iconst 1, 694), (694, .iadd, 695), (695, .iaload, 696), (696, .aload_n 0, 697), (697, .iload_n 3, 698), (698, .iconst 2, 699), (699, .iadd, 700), (700, .iaload, 701), (701, .invokevirtual 90, 704), (704, .aload_n 2, 705), (705, .aload_n 0, 706), (706, .iload_n 3, 707), (707, .iconst 1, 708), (708, .iadd, 709), (709, .iaload, 710), (710, .aload_n 0, 711), (711, .iload_n 3, 712), (712, .iconst 2, 713), (713, .iadd, 714), (714, .iaload, 715), (715, .invokevirtual 93, 718), (718, .if_icmp .eq 54, 721), (721, .iconst 0, 722), (722, .ireturn, 723), (723, .aload_n 1, 724), (724, .invokevirtual 94, 727), (727, .aload_n 2, 728), (728, .invokevirtual 97, 731), (731, .if_icmp .eq 41, 734), (734, .iconst 0, 735), (735, .ireturn, 736), (736, .aload_n 1, 737), (737, .aload_n 0, 738), (738, .iload_n 3, 739), (739, .iconst 1, 740), (740, .iadd, 741), (741, .iaload, 742), (742, .invokevirtual 98, 745), (745, .aload_n 2, 746), (746, .aload_n 0, 747), (747, .iload_n 3, 748), (748, .iconst 1, 749), (749, .iadd, 750), (750, .iaload, 751), (751, .invokevirtual 101, 754), (754, .if_icmp .eq 18, 757), (757, .iconst 0, 758), (758, .ireturn, 759), (759, .aload_n 1, 760), (760, .invokevirtual 102, 763), (763, .aload_n 2, 764), (764, .invokevirtual 105, 767), (767, .if_icmp .eq 5, 770), (770, .iconst 0, 771), (771, .ireturn, 772), (772, .iinc 3 5, 775), (775, .goto (-757), 778), (778, .iconst 1, 779), (779, .ireturn, 780)]
theorem dec_230_0 : ((il_230.drop 0).take 50).all (fun q => decide (decode code q.1 = .ok (q.2.1, q.2.2 - q.1))) = true := by decide +kernel
theorem dec_230_50 : ((il_230.drop 50).take 50).all (fun q => decide (decode code q.1 = .ok (q.2.1, q.2.2 - q.1))) = true := by decide +kernel
theorem dec_230_100 : ((il_230.drop 100).take 50).all (fun q => decide (decode code q.1 = .ok (q.2.1, q.2.2 - q.1))) = true := by decide +kernel
theorem dec_230_150 : ((il_230.drop 150).take 50).all (fun q => decide (decode code q.1 = .ok (q.2.1, q.2.2 - q.1))) = true := by decide +kernel
theorem dec_230_200 : ((il_230.drop 200).take 50).all (fun q => decide (decode code q.1 = .ok (q.2.1, q.2.2 - q.1))) = true := by decide +kernel
theorem dec_230_250 : ((il_230.drop 250).take 50).all (fun q => decide (decode code q.1 = .ok (q.2.1, q.2.2 - q.1))) = true := by decide +kernel
theorem dec_230_300 : ((il_230.drop 300).take 50).all (fun q => decide (decode code q.1 = .ok (q.2.1, q.2.2 - q.1))) = true := by decide +kernel
theorem dec_230_350 : ((il_230.drop 350).take 50).all (fun q => decide (decode code q.1 = .ok (q.2.1, q.2.2 - q.1))) = true := by decide +kernel
theorem dec_230_400 : ((il_230.drop 400).take 50).all (fun q => decide (decode code q.1 = .ok (q.2.1, q.2.2 - q.1))) = true := by decide +kernel
theorem dec_230_450 : ((il_230.drop 450).take 50).all (fun q => decide (decode code q.1 = .ok (q.2.1, q.2.2 - q.1))) = true := by decide +kernel
theorem dec_230_500 : ((il_230.drop 500).take 50).all (fun q => decide (decode code q.1 = .ok (q.2.1, q.2.2 - q.1))) = true := by decide +kernel
end
section
abbrev MT : Type := MethodName × ByteArray × Nat × Option FieldType × Nat × List (Nat × Instr × Nat)
def mt_0 : MT := (⟨"java/lang/AbstractStringBuilder", "<init>", "(I)V"⟩, prog_15_method_2_code, 2, none, 0, il_0)
def mt_1 : MT := (⟨"java/lang/StringBuilder", "<init>", "()V"⟩, prog_22_method_1_code, 1, none, 1, il_1)
def mt_2 : MT := (⟨"PipelineSimulator$Reader", "<init>", "(Ljava/lang/StringBuilder;)V"⟩, prog_9_method_1_code, 2, none, 2, il_2)
def mt_3 : MT := (⟨"PipelineSimulator$Settings", "<init>", "()V"⟩, prog_11_method_1_code, 1, none, 3, il_3)
def mt_4 : MT := (⟨"PipelineSimulator$Records", "<init>", "(I)V"⟩, prog_10_method_1_code, 3, none, 4, il_4)
def mt_5 : MT := (⟨"PipelineSimulator$Latencies", "<init>", "()V"⟩, prog_6_method_1_code, 1, none, 5, il_5)
def mt_6 : MT := (⟨"PipelineSimulator$Keyed", "<init>", "()V"⟩, prog_5_method_1_code, 1, none, 6, il_6)
def mt_7 : MT := (⟨"PipelineSimulator$Instance", "<init>", "()V"⟩, prog_4_method_1_code, 1, none, 7, il_7)
def mt_8 : MT := (⟨"PipelineSimulator$Operator", "become", "(IIII)V"⟩, prog_7_method_2_code, 5, none, 8, il_8)
def mt_9 : MT := (⟨"PipelineSimulator$Operator", "<init>", "(I)V"⟩, prog_7_method_1_code, 3, none, 8, il_9)
def mt_10 : MT := (⟨"PipelineSimulator$Channel", "<init>", "(LPipelineSimulator$Settings;)V"⟩, prog_2_method_1_code, 2, none, 9, il_10)
def mt_11 : MT := (⟨"PipelineSimulator$Simulation", "<init>", "()V"⟩, prog_12_method_1_code, 2, none, 10, il_11)
def mt_12 : MT := (⟨"PipelineSimulator$Plain", "<init>", "(LPipelineSimulator$Simulation;)V"⟩, prog_8_method_1_code, 2, none, 11, il_12)
def mt_13 : MT := (⟨"PipelineSimulator$Explanation", "<init>", "(LPipelineSimulator$Simulation;)V"⟩, prog_3_method_1_code, 2, none, 12, il_13)
def mt_14 : MT := (⟨"PipelineSimulator", "<init>", "()V"⟩, prog_1_method_1_code, 1, none, 13, il_14)
def mt_15 : MT := (⟨"PipelineSimulatorModel", "<init>", "()V"⟩, prog_14_method_1_code, 1, none, 14, il_15)
def mt_16 : MT := (⟨"java/lang/AbstractStringBuilder", "length", "()I"⟩, prog_15_method_6_code, 1, (some .int), 0, il_16)
def mt_17 : MT := (⟨"java/lang/StringBuilder", "length", "()I"⟩, prog_22_method_93_code, 1, (some .int), 1, il_17)
def mt_18 : MT := (⟨"java/lang/Math", "max", "(II)I"⟩, prog_19_method_65_code, 2, (some .int), 15, il_18)
def mt_19 : MT := (⟨"jdk/internal/util/ArraysSupport", "newLength", "(III)I"⟩, prog_27_method_27_code, 4, (some .int), 16, il_19)
def mt_20 : MT := (⟨"java/lang/AbstractStringBuilder", "newCapacity", "(I)I"⟩, prog_15_method_10_code, 6, (some .int), 0, il_20)
def mt_21 : MT := (⟨"java/lang/Math", "min", "(II)I"⟩, prog_19_method_69_code, 2, (some .int), 15, il_21)
def mt_22 : MT := (⟨"java/util/Arrays", "copyOf", "([BI)[B"⟩, prog_26_method_121_code, 3, (some (.array .byte)), 17, il_22)
def mt_23 : MT := (⟨"java/lang/AbstractStringBuilder", "ensureCapacityInternal", "(I)V"⟩, prog_15_method_9_code, 3, none, 0, il_23)
def mt_24 : MT := (⟨"java/lang/AbstractStringBuilder", "isLatin1", "()Z"⟩, prog_15_method_68_code, 1, (some .boolean), 0, il_24)
def mt_25 : MT := (⟨"java/lang/StringLatin1", "canEncode", "(C)Z"⟩, prog_23_method_3_code, 1, (some .boolean), 18, il_25)
def mt_26 : MT := (⟨"java/lang/AbstractStringBuilder", "append", "(C)Ljava/lang/AbstractStringBuilder;"⟩, prog_15_method_31_code, 2, (some (.object "java/lang/AbstractStringBuilder")), 0, il_26)
def mt_27 : MT := (⟨"java/lang/StringBuilder", "append", "(C)Ljava/lang/StringBuilder;"⟩, prog_22_method_14_code, 2, (some (.object "java/lang/StringBuilder")), 1, il_27)
def mt_28 : MT := (⟨"PipelineSimulator", "append", "(II)I"⟩, prog_1_method_2_code, 4, (some .int), 13, il_28)
def mt_29 : MT := (⟨"PipelineSimulatorModel", "isIn", "(III)Z"⟩, prog_14_method_2_code, 3, (some .boolean), 14, il_29)
def mt_30 : MT := (⟨"PipelineSimulatorModel", "append", "(II)I"⟩, prog_14_method_7_code, 4, (some .int), 14, il_30)
def mt_31 : MT := (⟨"jdk/internal/util/Preconditions", "checkIndex", "(IILjava/util/function/BiFunction;)I"⟩, prog_28_method_11_code, 3, (some .int), 19, il_31)
def mt_32 : MT := (⟨"java/lang/String", "checkIndex", "(II)V"⟩, prog_21_method_155_code, 2, none, 20, il_32)
def mt_33 : MT := (⟨"java/lang/AbstractStringBuilder", "charAt", "(I)C"⟩, prog_15_method_14_code, 5, (some .char), 0, il_33)
def mt_34 : MT := (⟨"java/lang/StringBuilder", "charAt", "(I)C"⟩, prog_22_method_88_code, 2, (some .char), 1, il_34)
def mt_35 : MT := (⟨"PipelineSimulator$Reader", "sign", "()I"⟩, prog_9_method_3_code, 1, (some .int), 2, il_35)
def mt_36 : MT := (⟨"java/lang/String", "isLatin1", "()Z"⟩, prog_21_method_154_code, 1, (some .boolean), 20, il_36)
def mt_37 : MT := (⟨"java/lang/String", "coder", "()B"⟩, prog_21_method_152_code, 1, (some .byte), 20, il_37)
def mt_38 : MT := (⟨"java/lang/String", "length", "()I"⟩, prog_21_method_54_code, 1, (some .int), 20, il_38)
def mt_39 : MT := (⟨"java/lang/StringLatin1", "canEncode", "(I)Z"⟩, prog_23_method_4_code, 1, (some .boolean), 18, il_39)
def mt_40 : MT := (⟨"java/lang/StringLatin1", "indexOfChar", "([BIII)I"⟩, prog_23_method_23_code, 6, (some .int), 18, il_40)
def mt_41 : MT := (⟨"java/lang/StringLatin1", "indexOf", "([BIII)I"⟩, prog_23_method_22_code, 4, (some .int), 18, il_41)
def mt_42 : MT := (⟨"java/lang/String", "indexOf", "(II)I"⟩, prog_21_method_80_code, 3, (some .int), 20, il_42)
def mt_43 : MT := (⟨"java/lang/String", "indexOf", "(I)I"⟩, prog_21_method_79_code, 2, (some .int), 20, il_43)
def mt_44 : MT := (⟨"PipelineSimulator", "numbersOf", "(I)I"⟩, prog_1_method_26_code, 1, (some .int), 13, il_44)
def mt_45 : MT := (⟨"PipelineSimulator$Reader", "skip", "(C)Z"⟩, prog_9_method_6_code, 2, (some .boolean), 2, il_45)
def mt_46 : MT := (⟨"PipelineSimulator$Reader", "atDigit", "()Z"⟩, prog_9_method_9_code, 1, (some .boolean), 2, il_46)
def mt_47 : MT := (⟨"PipelineSimulator$Reader", "readNumber", "()Z"⟩, prog_9_method_7_code, 2, (some .boolean), 2, il_47)
def mt_48 : MT := (⟨"PipelineSimulator$Reader", "inRange", "(I)Z"⟩, prog_9_method_8_code, 2, (some .boolean), 2, il_48)
def mt_49 : MT := (⟨"PipelineSimulator$Reader", "atInstances", "()Z"⟩, prog_9_method_10_code, 1, (some .boolean), 2, il_49)
def mt_50 : MT := (⟨"PipelineSimulator$Reader", "readInstances", "()I"⟩, prog_9_method_11_code, 2, (some .int), 2, il_50)
def mt_51 : MT := (⟨"PipelineSimulator$Reader", "readStage", "(I)Z"⟩, prog_9_method_5_code, 5, (some .boolean), 2, il_51)
def mt_52 : MT := (⟨"PipelineSimulator$Reader", "readStages", "()Z"⟩, prog_9_method_4_code, 2, (some .boolean), 2, il_52)
def mt_53 : MT := (⟨"PipelineSimulator$Reader", "readAll", "()Z"⟩, prog_9_method_2_code, 1, (some .boolean), 2, il_53)
def mt_54 : MT := (⟨"java/lang/AbstractStringBuilder", "setLength", "(I)V"⟩, prog_15_method_13_code, 2, none, 0, il_54)
def mt_55 : MT := (⟨"java/lang/StringBuilder", "setLength", "(I)V"⟩, prog_22_method_89_code, 2, none, 1, il_55)
def mt_56 : MT := (⟨"PipelineSimulator$Simulation", "operatorAt", "(I)LPipelineSimulator$Operator;"⟩, prog_12_method_2_code, 2, (some (.object "PipelineSimulator$Operator")), 10, il_56)
def mt_57 : MT := (⟨"java/util/Arrays", "fill", "([II)V"⟩, prog_26_method_103_code, 4, none, 17, il_57)
def mt_58 : MT := (⟨"PipelineSimulator$Keyed", "wipe", "()V"⟩, prog_5_method_9_code, 1, none, 6, il_58)
def mt_59 : MT := (⟨"PipelineSimulator$Instance", "resetCounters", "()V"⟩, prog_4_method_2_code, 1, none, 7, il_59)
def mt_60 : MT := (⟨"PipelineSimulator$Operator", "resetCounters", "()V"⟩, prog_7_method_8_code, 5, none, 8, il_60)
def mt_61 : MT := (⟨"PipelineSimulator$Operator", "forgetAll", "()V"⟩, prog_7_method_7_code, 1, none, 8, il_61)
def mt_62 : MT := (⟨"PipelineSimulator$Latencies", "wipe", "()V"⟩, prog_6_method_4_code, 1, none, 5, il_62)
def mt_63 : MT := (⟨"PipelineSimulator$Records", "wipe", "()V"⟩, prog_10_method_7_code, 1, none, 4, il_63)
def mt_64 : MT := (⟨"PipelineSimulator$Channel", "wipe", "()V"⟩, prog_2_method_12_code, 1, none, 9, il_64)
def mt_65 : MT := (⟨"PipelineSimulator$Keyed", "copyAll", "(LPipelineSimulator$Keyed;)V"⟩, prog_5_method_8_code, 2, none, 6, il_65)
def mt_66 : MT := (⟨"PipelineSimulator$Instance", "returnToSaved", "()V"⟩, prog_4_method_3_code, 1, none, 7, il_66)
def mt_67 : MT := (⟨"PipelineSimulator$Operator", "returnToSaved", "()V"⟩, prog_7_method_9_code, 5, none, 8, il_67)
def mt_68 : MT := (⟨"PipelineSimulator$Simulation", "returnToSaved", "()V"⟩, prog_12_method_19_code, 5, none, 10, il_68)
def mt_69 : MT := (⟨"PipelineSimulator$Simulation", "beginAnew", "()V"⟩, prog_12_method_7_code, 5, none, 10, il_69)
def mt_70 : MT := (⟨"PipelineSimulator$Simulation", "replacePipeline", "(LPipelineSimulator$Reader;)V"⟩, prog_12_method_6_code, 4, none, 10, il_70)
def mt_71 : MT := (⟨"PipelineSimulator$Plain", "forget", "()V"⟩, prog_8_method_2_code, 3, none, 11, il_71)
def mt_72 : MT := (⟨"PipelineSimulator", "readPipeline", "()I"⟩, prog_1_method_3_code, 2, (some .int), 13, il_72)
def mt_73 : MT := (⟨"PipelineSimulatorModel", "here", "()I"⟩, prog_14_method_8_code, 1, (some .int), 14, il_73)
def mt_74 : MT := (⟨"PipelineSimulatorModel", "letter", "(I)I"⟩, prog_14_method_11_code, 1, (some .int), 14, il_74)
def mt_75 : MT := (⟨"PipelineSimulatorModel", "sign", "(I)V"⟩, prog_14_method_9_code, 2, none, 14, il_75)
def mt_76 : MT := (⟨"PipelineSimulatorModel", "number", "(II)I"⟩, prog_14_method_10_code, 5, (some .int), 14, il_76)
def mt_77 : MT := (⟨"PipelineSimulatorModel", "instances", "()I"⟩, prog_14_method_13_code, 2, (some .int), 14, il_77)
def mt_78 : MT := (⟨"PipelineSimulatorModel", "stage", "(I)V"⟩, prog_14_method_12_code, 3, none, 14, il_78)
def mt_79 : MT := (⟨"PipelineSimulatorModel", "breaks", "()V"⟩, prog_14_method_16_code, 2, none, 14, il_79)
def mt_80 : MT := (⟨"PipelineSimulatorModel", "begins", "()V"⟩, prog_14_method_15_code, 2, none, 14, il_80)
def mt_81 : MT := (⟨"PipelineSimulatorModel", "readPipeline", "()I"⟩, prog_14_method_14_code, 4, (some .int), 14, il_81)
def mt_82 : MT := (⟨"PipelineSimulator$Settings", "digits", "()I"⟩, prog_11_method_3_code, 1, (some .int), 3, il_82)
def mt_83 : MT := (⟨"PipelineSimulator$Settings", "change", "(IIII)V"⟩, prog_11_method_2_code, 5, none, 3, il_83)
def mt_84 : MT := (⟨"PipelineSimulator", "configure", "(IIII)I"⟩, prog_1_method_4_code, 6, (some .int), 13, il_84)
def mt_85 : MT := (⟨"PipelineSimulatorModel", "configure", "(IIII)I"⟩, prog_14_method_17_code, 6, (some .int), 14, il_85)
def mt_86 : MT := (⟨"PipelineSimulator$Records", "add", "(III)V"⟩, prog_10_method_2_code, 5, none, 4, il_86)
def mt_87 : MT := (⟨"PipelineSimulator", "push", "(II)I"⟩, prog_1_method_5_code, 3, (some .int), 13, il_87)
def mt_88 : MT := (⟨"PipelineSimulatorModel", "push", "(II)I"⟩, prog_14_method_18_code, 3, (some .int), 14, il_88)
def mt_89 : MT := (⟨"PipelineSimulator$Channel", "isEmpty", "()Z"⟩, prog_2_method_9_code, 1, (some .boolean), 9, il_89)
def mt_90 : MT := (⟨"PipelineSimulator$Simulation", "sizeOf", "(I)I"⟩, prog_12_method_3_code, 3, (some .int), 10, il_90)
def mt_91 : MT := (⟨"PipelineSimulator$Simulation", "instanceAt", "(II)LPipelineSimulator$Instance;"⟩, prog_12_method_4_code, 4, (some (.object "PipelineSimulator$Instance")), 10, il_91)
def mt_92 : MT := (⟨"PipelineSimulator$Simulation", "recordsInLists", "()I"⟩, prog_12_method_13_code, 5, (some .int), 10, il_92)
def mt_93 : MT := (⟨"PipelineSimulator$Simulation", "quiet", "()Z"⟩, prog_12_method_11_code, 5, (some .boolean), 10, il_93)
def mt_94 : MT := (⟨"PipelineSimulator$Channel", "hasRoom", "()Z"⟩, prog_2_method_2_code, 1, (some .boolean), 9, il_94)
def mt_95 : MT := (⟨"PipelineSimulator$Channel", "enqueue", "(I)V"⟩, prog_2_method_14_code, 2, none, 9, il_95)
def mt_96 : MT := (⟨"PipelineSimulator$Channel", "closeOpen", "()V"⟩, prog_2_method_13_code, 1, none, 9, il_96)
def mt_97 : MT := (⟨"PipelineSimulator$Channel", "growOlder", "()V"⟩, prog_2_method_7_code, 1, none, 9, il_97)
def mt_98 : MT := (⟨"PipelineSimulator$Operator", "isKeyed", "()Z"⟩, prog_7_method_3_code, 1, (some .boolean), 8, il_98)
def mt_99 : MT := (⟨"PipelineSimulator$Records", "keyAt", "(I)I"⟩, prog_10_method_3_code, 2, (some .int), 4, il_99)
def mt_100 : MT := (⟨"PipelineSimulator$Operator", "ownerOf", "(II)I"⟩, prog_7_method_4_code, 3, (some .int), 8, il_100)
def mt_101 : MT := (⟨"java/lang/Math", "floorMod", "(II)I"⟩, prog_19_method_50_code, 3, (some .int), 15, il_101)
def mt_102 : MT := (⟨"PipelineSimulator$Simulation", "targetOf", "(ILPipelineSimulator$Instance;)I"⟩, prog_12_method_16_code, 4, (some .int), 10, il_102)
def mt_103 : MT := (⟨"PipelineSimulator$Simulation", "channelAt", "(III)LPipelineSimulator$Channel;"⟩, prog_12_method_5_code, 7, (some (.object "PipelineSimulator$Channel")), 10, il_103)
def mt_104 : MT := (⟨"PipelineSimulator$Channel", "takesRecord", "()Z"⟩, prog_2_method_3_code, 1, (some .boolean), 9, il_104)
def mt_105 : MT := (⟨"PipelineSimulator$Records", "valueAt", "(I)I"⟩, prog_10_method_4_code, 2, (some .int), 4, il_105)
def mt_106 : MT := (⟨"PipelineSimulator$Records", "birthAt", "(I)I"⟩, prog_10_method_5_code, 2, (some .int), 4, il_106)
def mt_107 : MT := (⟨"PipelineSimulator$Channel", "putRecord", "(III)V"⟩, prog_2_method_5_code, 4, none, 9, il_107)
def mt_108 : MT := (⟨"PipelineSimulator$Records", "removeFirst", "()V"⟩, prog_10_method_6_code, 1, none, 4, il_108)
def mt_109 : MT := (⟨"PipelineSimulator$Simulation", "sendList", "(IILPipelineSimulator$Instance;)Z"⟩, prog_12_method_21_code, 9, (some .boolean), 10, il_109)
def mt_110 : MT := (⟨"PipelineSimulator$Channel", "takesBarrier", "()Z"⟩, prog_2_method_4_code, 2, (some .boolean), 9, il_110)
def mt_111 : MT := (⟨"PipelineSimulator$Simulation", "targetWithoutRoom", "(II)I"⟩, prog_12_method_17_code, 5, (some .int), 10, il_111)
def mt_112 : MT := (⟨"PipelineSimulator$Channel", "putBarrier", "()V"⟩, prog_2_method_6_code, 1, none, 9, il_112)
def mt_113 : MT := (⟨"PipelineSimulator$Simulation", "sendBarrier", "(IILPipelineSimulator$Instance;)Z"⟩, prog_12_method_22_code, 6, (some .boolean), 10, il_113)
def mt_114 : MT := (⟨"PipelineSimulator$Simulation", "takeInput", "(LPipelineSimulator$Operator;LPipelineSimulator$Instance;)Z"⟩, prog_12_method_23_code, 3, (some .boolean), 10, il_114)
def mt_115 : MT := (⟨"PipelineSimulator$Channel", "hasItem", "()Z"⟩, prog_2_method_8_code, 1, (some .boolean), 9, il_115)
def mt_116 : MT := (⟨"PipelineSimulator$Simulation", "inputToTake", "(II)I"⟩, prog_12_method_18_code, 9, (some .int), 10, il_116)
def mt_117 : MT := (⟨"PipelineSimulator$Channel", "startsWithBarrier", "()Z"⟩, prog_2_method_10_code, 1, (some .boolean), 9, il_117)
def mt_118 : MT := (⟨"PipelineSimulator$Channel", "removeItem", "()V"⟩, prog_2_method_11_code, 2, none, 9, il_118)
def mt_119 : MT := (⟨"PipelineSimulator$Keyed", "copyKey", "(LPipelineSimulator$Keyed;I)V"⟩, prog_5_method_7_code, 5, none, 6, il_119)
def mt_120 : MT := (⟨"PipelineSimulator$Operator", "savePending", "(I)V"⟩, prog_7_method_10_code, 3, none, 8, il_120)
def mt_121 : MT := (⟨"PipelineSimulator$Simulation", "saveInstance", "(ILPipelineSimulator$Operator;LPipelineSimulator$Instance;)V"⟩, prog_12_method_25_code, 4, none, 10, il_121)
def mt_122 : MT := (⟨"java/util/Arrays", "copyOf", "([II)[I"⟩, prog_26_method_123_code, 3, (some (.array .int)), 17, il_122)
def mt_123 : MT := (⟨"PipelineSimulator$Latencies", "note", "(I)V"⟩, prog_6_method_2_code, 3, none, 5, il_123)
def mt_124 : MT := (⟨"PipelineSimulator$Operator", "passes", "(I)Z"⟩, prog_7_method_13_code, 2, (some .boolean), 8, il_124)
def mt_125 : MT := (⟨"PipelineSimulator$Keyed", "firstOf", "(I)I"⟩, prog_5_method_3_code, 2, (some .int), 6, il_125)
def mt_126 : MT := (⟨"PipelineSimulator$Keyed", "secondOf", "(I)I"⟩, prog_5_method_4_code, 2, (some .int), 6, il_126)
def mt_127 : MT := (⟨"PipelineSimulator$Keyed", "remove", "(I)V"⟩, prog_5_method_6_code, 2, none, 6, il_127)
def mt_128 : MT := (⟨"PipelineSimulator$Keyed", "put", "(III)V"⟩, prog_5_method_5_code, 4, none, 6, il_128)
def mt_129 : MT := (⟨"PipelineSimulator$Operator", "addToSum", "(LPipelineSimulator$Keyed;IIILPipelineSimulator$Records;)V"⟩, prog_7_method_14_code, 8, none, 8, il_129)
def mt_130 : MT := (⟨"PipelineSimulator$Keyed", "has", "(I)Z"⟩, prog_5_method_2_code, 2, (some .boolean), 6, il_130)
def mt_131 : MT := (⟨"PipelineSimulator$Operator", "handle", "(LPipelineSimulator$Keyed;IIILPipelineSimulator$Records;)V"⟩, prog_7_method_12_code, 7, none, 8, il_131)
def mt_132 : MT := (⟨"PipelineSimulator$Simulation", "takeItem", "(IILPipelineSimulator$Operator;LPipelineSimulator$Instance;)Z"⟩, prog_12_method_24_code, 11, (some .boolean), 10, il_132)
def mt_133 : MT := (⟨"PipelineSimulator$Simulation", "work", "(II)V"⟩, prog_12_method_20_code, 7, none, 10, il_133)
def mt_134 : MT := (⟨"PipelineSimulator$Operator", "completePending", "()V"⟩, prog_7_method_11_code, 3, none, 8, il_134)
def mt_135 : MT := (⟨"PipelineSimulator$Simulation", "completeCheckpoint", "()V"⟩, prog_12_method_26_code, 3, none, 10, il_135)
def mt_136 : MT := (⟨"PipelineSimulator$Simulation", "performTick", "()V"⟩, prog_12_method_15_code, 5, none, 10, il_136)
def mt_137 : MT := (⟨"PipelineSimulator", "tick", "(I)I"⟩, prog_1_method_6_code, 3, (some .int), 13, il_137)
def mt_138 : MT := (⟨"PipelineSimulatorModel", "quiet", "()Z"⟩, prog_14_method_44_code, 2, (some .boolean), 14, il_138)
def mt_139 : MT := (⟨"PipelineSimulatorModel", "closes", "(I)V"⟩, prog_14_method_24_code, 4, none, 14, il_139)
def mt_140 : MT := (⟨"PipelineSimulatorModel", "sink", "()I"⟩, prog_14_method_3_code, 1, (some .int), 14, il_140)
def mt_141 : MT := (⟨"PipelineSimulatorModel", "spot", "(II)I"⟩, prog_14_method_20_code, 2, (some .int), 14, il_141)
def mt_142 : MT := (⟨"PipelineSimulatorModel", "isKeyed", "(I)Z"⟩, prog_14_method_5_code, 2, (some .boolean), 14, il_142)
def mt_143 : MT := (⟨"PipelineSimulatorModel", "home", "(II)I"⟩, prog_14_method_6_code, 3, (some .int), 14, il_143)
def mt_144 : MT := (⟨"PipelineSimulatorModel", "goal", "(III)I"⟩, prog_14_method_29_code, 4, (some .int), 14, il_144)
def mt_145 : MT := (⟨"PipelineSimulatorModel", "line", "(III)I"⟩, prog_14_method_21_code, 3, (some .int), 14, il_145)
def mt_146 : MT := (⟨"PipelineSimulatorModel", "takesRecord", "(I)Z"⟩, prog_14_method_22_code, 2, (some .boolean), 14, il_146)
def mt_147 : MT := (⟨"PipelineSimulatorModel", "puts", "(IIII)V"⟩, prog_14_method_25_code, 5, none, 14, il_147)
def mt_148 : MT := (⟨"PipelineSimulatorModel", "takesBarrier", "(I)Z"⟩, prog_14_method_23_code, 2, (some .boolean), 14, il_148)
def mt_149 : MT := (⟨"PipelineSimulatorModel", "refusing", "(II)I"⟩, prog_14_method_41_code, 4, (some .int), 14, il_149)
def mt_150 : MT := (⟨"PipelineSimulatorModel", "putsBarrier", "(I)V"⟩, prog_14_method_26_code, 2, none, 14, il_150)
def mt_151 : MT := (⟨"PipelineSimulatorModel", "sends", "(II)Z"⟩, prog_14_method_42_code, 7, (some .boolean), 14, il_151)
def mt_152 : MT := (⟨"PipelineSimulatorModel", "emits", "(IIIII)V"⟩, prog_14_method_30_code, 7, none, 14, il_152)
def mt_153 : MT := (⟨"PipelineSimulatorModel", "ready", "(II)I"⟩, prog_14_method_39_code, 6, (some .int), 14, il_153)
def mt_154 : MT := (⟨"PipelineSimulatorModel", "pops", "(I)V"⟩, prog_14_method_27_code, 4, none, 14, il_154)
def mt_155 : MT := (⟨"PipelineSimulatorModel", "saves", "(II)V"⟩, prog_14_method_36_code, 5, none, 14, il_155)
def mt_156 : MT := (⟨"PipelineSimulatorModel", "completes", "()V"⟩, prog_14_method_37_code, 2, none, 14, il_156)
def mt_157 : MT := (⟨"PipelineSimulatorModel", "barrier", "(III)V"⟩, prog_14_method_38_code, 5, none, 14, il_157)
def mt_158 : MT := (⟨"PipelineSimulatorModel", "gives", "(II)V"⟩, prog_14_method_31_code, 3, none, 14, il_158)
def mt_159 : MT := (⟨"PipelineSimulatorModel", "rest", "(I)I"⟩, prog_14_method_32_code, 2, (some .int), 14, il_159)
def mt_160 : MT := (⟨"PipelineSimulatorModel", "processes", "(III[Z[I[I)V"⟩, prog_14_method_33_code, 10, none, 14, il_160)
def mt_161 : MT := (⟨"PipelineSimulatorModel", "takesIn", "(IIIII)V"⟩, prog_14_method_34_code, 7, none, 14, il_161)
def mt_162 : MT := (⟨"PipelineSimulatorModel", "takes", "(II)Z"⟩, prog_14_method_40_code, 8, (some .boolean), 14, il_162)
def mt_163 : MT := (⟨"PipelineSimulatorModel", "works", "(II)V"⟩, prog_14_method_43_code, 5, none, 14, il_163)
def mt_164 : MT := (⟨"PipelineSimulatorModel", "ticks", "()V"⟩, prog_14_method_45_code, 3, none, 14, il_164)
def mt_165 : MT := (⟨"PipelineSimulatorModel", "tick", "(I)I"⟩, prog_14_method_46_code, 3, (some .int), 14, il_165)
def mt_166 : MT := (⟨"PipelineSimulator", "isQuiet", "()I"⟩, prog_1_method_7_code, 1, (some .int), 13, il_166)
def mt_167 : MT := (⟨"PipelineSimulatorModel", "isQuiet", "()I"⟩, prog_14_method_47_code, 1, (some .int), 14, il_167)
def mt_168 : MT := (⟨"PipelineSimulator$Simulation", "beginCheckpoint", "()V"⟩, prog_12_method_10_code, 2, none, 10, il_168)
def mt_169 : MT := (⟨"PipelineSimulator", "checkpoint", "()I"⟩, prog_1_method_8_code, 1, (some .int), 13, il_169)
def mt_170 : MT := (⟨"PipelineSimulatorModel", "checkpoint", "()I"⟩, prog_14_method_48_code, 2, (some .int), 14, il_170)
def mt_171 : MT := (⟨"PipelineSimulator$Simulation", "failNow", "()V"⟩, prog_12_method_8_code, 1, none, 10, il_171)
def mt_172 : MT := (⟨"PipelineSimulator", "fail", "()I"⟩, prog_1_method_9_code, 1, (some .int), 13, il_172)
def mt_173 : MT := (⟨"PipelineSimulatorModel", "fail", "()I"⟩, prog_14_method_49_code, 1, (some .int), 14, il_173)
def mt_174 : MT := (⟨"PipelineSimulator$Operator", "keysMovedBy", "(I)I"⟩, prog_7_method_6_code, 4, (some .int), 8, il_174)
def mt_175 : MT := (⟨"PipelineSimulator$Simulation", "changeInstances", "(II)I"⟩, prog_12_method_9_code, 5, (some .int), 10, il_175)
def mt_176 : MT := (⟨"PipelineSimulator", "rescale", "(II)I"⟩, prog_1_method_10_code, 3, (some .int), 13, il_176)
def mt_177 : MT := (⟨"PipelineSimulatorModel", "isOperator", "(I)Z"⟩, prog_14_method_4_code, 2, (some .boolean), 14, il_177)
def mt_178 : MT := (⟨"PipelineSimulatorModel", "rescale", "(II)I"⟩, prog_14_method_50_code, 6, (some .int), 14, il_178)
def mt_179 : MT := (⟨"PipelineSimulator$Simulation", "recordsInChannels", "()I"⟩, prog_12_method_12_code, 6, (some .int), 10, il_179)
def mt_180 : MT := (⟨"PipelineSimulator$Simulation", "recordsInSink", "()I"⟩, prog_12_method_14_code, 4, (some .int), 10, il_180)
def mt_181 : MT := (⟨"PipelineSimulator", "count", "(I)I"⟩, prog_1_method_11_code, 2, (some .int), 13, il_181)
def mt_182 : MT := (⟨"PipelineSimulatorModel", "inside", "(I)I"⟩, prog_14_method_28_code, 4, (some .int), 14, il_182)
def mt_183 : MT := (⟨"PipelineSimulatorModel", "count", "(I)I"⟩, prog_14_method_51_code, 4, (some .int), 14, il_183)
def mt_184 : MT := (⟨"PipelineSimulator", "operator", "(II)I"⟩, prog_1_method_12_code, 4, (some .int), 13, il_184)
def mt_185 : MT := (⟨"PipelineSimulatorModel", "operator", "(II)I"⟩, prog_14_method_52_code, 3, (some .int), 14, il_185)
def mt_186 : MT := (⟨"PipelineSimulator$Operator", "keysOf", "(I)I"⟩, prog_7_method_5_code, 4, (some .int), 8, il_186)
def mt_187 : MT := (⟨"PipelineSimulator", "instance", "(III)I"⟩, prog_1_method_13_code, 6, (some .int), 13, il_187)
def mt_188 : MT := (⟨"PipelineSimulatorModel", "keysOf", "(II)I"⟩, prog_14_method_53_code, 5, (some .int), 14, il_188)
def mt_189 : MT := (⟨"PipelineSimulatorModel", "instance", "(III)I"⟩, prog_14_method_54_code, 5, (some .int), 14, il_189)
def mt_190 : MT := (⟨"PipelineSimulator", "channel", "(IIII)I"⟩, prog_1_method_14_code, 6, (some .int), 13, il_190)
def mt_191 : MT := (⟨"PipelineSimulatorModel", "channel", "(IIII)I"⟩, prog_14_method_55_code, 6, (some .int), 14, il_191)
def mt_192 : MT := (⟨"PipelineSimulator", "numberOf", "(LPipelineSimulator$Keyed;II)I"⟩, prog_1_method_24_code, 3, (some .int), 13, il_192)
def mt_193 : MT := (⟨"PipelineSimulator", "state", "(III)I"⟩, prog_1_method_15_code, 5, (some .int), 13, il_193)
def mt_194 : MT := (⟨"PipelineSimulatorModel", "told", "(III[Z[I[I)I"⟩, prog_14_method_56_code, 7, (some .int), 14, il_194)
def mt_195 : MT := (⟨"PipelineSimulatorModel", "state", "(III)I"⟩, prog_14_method_57_code, 4, (some .int), 14, il_195)
def mt_196 : MT := (⟨"PipelineSimulator", "savedState", "(III)I"⟩, prog_1_method_16_code, 5, (some .int), 13, il_196)
def mt_197 : MT := (⟨"PipelineSimulatorModel", "savedState", "(III)I"⟩, prog_14_method_58_code, 4, (some .int), 14, il_197)
def mt_198 : MT := (⟨"PipelineSimulator$Latencies", "leastOf", "(I)I"⟩, prog_6_method_3_code, 5, (some .int), 5, il_198)
def mt_199 : MT := (⟨"PipelineSimulator", "latency", "(I)I"⟩, prog_1_method_17_code, 3, (some .int), 13, il_199)
def mt_200 : MT := (⟨"PipelineSimulatorModel", "latency", "(I)I"⟩, prog_14_method_35_code, 7, (some .int), 14, il_200)
def mt_201 : MT := (⟨"PipelineSimulator$Plain", "follow", "(LPipelineSimulator$Simulation;III)V"⟩, prog_8_method_4_code, 8, none, 11, il_201)
def mt_202 : MT := (⟨"PipelineSimulator$Plain", "catchUp", "()V"⟩, prog_8_method_3_code, 3, none, 11, il_202)
def mt_203 : MT := (⟨"PipelineSimulator", "plain", "(II)I"⟩, prog_1_method_18_code, 4, (some .int), 13, il_203)
def mt_204 : MT := (⟨"PipelineSimulatorModel", "plainly", "()V"⟩, prog_14_method_59_code, 5, none, 14, il_204)
def mt_205 : MT := (⟨"PipelineSimulatorModel", "plain", "(II)I"⟩, prog_14_method_60_code, 3, (some .int), 14, il_205)
def mt_206 : MT := (⟨"PipelineSimulator$Explanation", "reasonOf", "(II)I"⟩, prog_3_method_3_code, 5, (some .int), 12, il_206)
def mt_207 : MT := (⟨"PipelineSimulator$Explanation", "lowestRunning", "(I)I"⟩, prog_3_method_5_code, 2, (some .int), 12, il_207)
def mt_208 : MT := (⟨"PipelineSimulator$Explanation", "awaited", "(III)I"⟩, prog_3_method_4_code, 5, (some .int), 12, il_208)
def mt_209 : MT := (⟨"PipelineSimulator$Explanation", "begin", "(II)I"⟩, prog_3_method_2_code, 7, (some .int), 12, il_209)
def mt_210 : MT := (⟨"PipelineSimulator", "explain", "(II)I"⟩, prog_1_method_19_code, 3, (some .int), 13, il_210)
def mt_211 : MT := (⟨"PipelineSimulatorModel", "reasonOf", "(II)I"⟩, prog_14_method_61_code, 4, (some .int), 14, il_211)
def mt_212 : MT := (⟨"PipelineSimulatorModel", "explain", "(II)I"⟩, prog_14_method_62_code, 7, (some .int), 14, il_212)
def mt_213 : MT := (⟨"PipelineSimulator", "explanation", "(II)I"⟩, prog_1_method_20_code, 3, (some .int), 13, il_213)
def mt_214 : MT := (⟨"PipelineSimulatorModel", "explanation", "(II)I"⟩, prog_14_method_63_code, 3, (some .int), 14, il_214)
def mt_215 : MT := (⟨"java/lang/StringLatin1", "charAt", "([BI)C"⟩, prog_23_method_2_code, 2, (some .char), 18, il_215)
def mt_216 : MT := (⟨"java/lang/String", "charAt", "(I)C"⟩, prog_21_method_56_code, 2, (some .char), 20, il_216)
def mt_217 : MT := (⟨"java/lang/Integer", "stringSize", "(I)I"⟩, prog_18_method_13_code, 4, (some .int), 21, il_217)
def mt_218 : MT := (⟨"java/lang/Integer", "getChars", "(II[B)I"⟩, prog_18_method_12_code, 7, (some .int), 21, il_218)
def mt_219 : MT := (⟨"java/lang/AbstractStringBuilder", "append", "(I)Ljava/lang/AbstractStringBuilder;"⟩, prog_15_method_32_code, 4, (some (.object "java/lang/AbstractStringBuilder")), 0, il_219)
def mt_220 : MT := (⟨"java/lang/StringBuilder", "append", "(I)Ljava/lang/StringBuilder;"⟩, prog_22_method_15_code, 2, (some (.object "java/lang/StringBuilder")), 1, il_220)
def mt_221 : MT := (⟨"PipelineSimulator", "writeStage", "(LPipelineSimulator$Operator;)V"⟩, prog_1_method_25_code, 3, none, 13, il_221)
def mt_222 : MT := (⟨"PipelineSimulator", "write", "()I"⟩, prog_1_method_21_code, 2, (some .int), 13, il_222)
def mt_223 : MT := (⟨"PipelineSimulatorModel", "writes", "(I)V"⟩, prog_14_method_64_code, 2, none, 14, il_223)
def mt_224 : MT := (⟨"PipelineSimulatorModel", "writesNumber", "(I)V"⟩, prog_14_method_65_code, 3, none, 14, il_224)
def mt_225 : MT := (⟨"PipelineSimulatorModel", "write", "()I"⟩, prog_14_method_66_code, 3, (some .int), 14, il_225)
def mt_226 : MT := (⟨"PipelineSimulator", "written", "(I)I"⟩, prog_1_method_22_code, 2, (some .int), 13, il_226)
def mt_227 : MT := (⟨"PipelineSimulatorModel", "written", "(I)I"⟩, prog_14_method_67_code, 2, (some .int), 14, il_227)
def mt_228 : MT := (⟨"PipelineSimulator", "clear", "()I"⟩, prog_1_method_23_code, 2, (some .int), 13, il_228)
def mt_229 : MT := (⟨"PipelineSimulatorModel", "clear", "()I"⟩, prog_14_method_19_code, 2, (some .int), 14, il_229)
def mt_230 : MT := (⟨"PipelineSimulatorLaw", "law", "([I)Z"⟩, code, 4, (some .boolean), 22, il_230)
def mtDec (q : MT) : Bool := q.2.2.2.2.2.all (fun e => decide (decode q.2.1 e.1 = .ok (e.2.1, e.2.2 - e.1)))
def mtOK (q : MT) : Prop := mtDec q = true ∧ q.1.cls = oN q.2.2.2.2.1 ∧ q.2.2.1 ≤ 11 ∧ plainFor q.1 = true
def mtCW (q : MT) : Prop := Cond.code q.1 q.2.1 q.2.2.1 q.2.2.2.1 ∈ ALL
theorem t_ALL {w : Cond} (h : w ∈ tables_1) (g : goodWord w = true) : w ∈ ALL := List.mem_filter.mpr ⟨List.mem_append_right _ (List.mem_append_right _ h), g⟩
theorem t_c1 {w : Cond} (h : w ∈ tables_1_1) : w ∈ tables_1 := List.mem_append_left _ h
theorem t_c2 {w : Cond} (h : w ∈ tables_1_2) : w ∈ tables_1 := List.mem_append_right _ (List.mem_append_left _ h)
theorem t_c3 {w : Cond} (h : w ∈ tables_1_3) : w ∈ tables_1 := List.mem_append_right _ (List.mem_append_right _ (List.mem_append_left _ h))
theorem t_c4 {w : Cond} (h : w ∈ tables_1_4) : w ∈ tables_1 := List.mem_append_right _ (List.mem_append_right _ (List.mem_append_right _ (List.mem_append_left _ h)))
theorem t_c5 {w : Cond} (h : w ∈ tables_1_5) : w ∈ tables_1 := List.mem_append_right _ (List.mem_append_right _ (List.mem_append_right _ (List.mem_append_right _ (List.mem_append_left _ h))))
theorem t_c6 {w : Cond} (h : w ∈ tables_1_6) : w ∈ tables_1 := List.mem_append_right _ (List.mem_append_right _ (List.mem_append_right _ (List.mem_append_right _ (List.mem_append_right _ (List.mem_append_left _ h)))))
theorem t_c7 {w : Cond} (h : w ∈ tables_1_7) : w ∈ tables_1 := List.mem_append_right _ (List.mem_append_right _ (List.mem_append_right _ (List.mem_append_right _ (List.mem_append_right _ (List.mem_append_right _ (List.mem_append_left _ h))))))
theorem t_c8 {w : Cond} (h : w ∈ tables_1_8) : w ∈ tables_1 := List.mem_append_right _ (List.mem_append_right _ (List.mem_append_right _ (List.mem_append_right _ (List.mem_append_right _ (List.mem_append_right _ (List.mem_append_right _ h))))))
theorem all_50 {α : Type} {f : α → Bool} : ∀ (n : Nat) (l : List α), l.length ≤ n * 50 → (∀ j, j < n → ((l.drop (j * 50)).take 50).all f = true) → l.all f = true
  | 0, l, h, _ => by
    have : l = [] := List.eq_nil_of_length_eq_zero (by omega)
    subst this
    rfl
  | n + 1, l, h, hj => by
    rw [← List.take_append_drop 50 l, List.all_append, Bool.and_eq_true]
    refine ⟨by have h0 := hj 0 (by omega); rw [Nat.zero_mul, List.drop_zero] at h0; exact h0, all_50 n (l.drop 50) (by rw [List.length_drop]; omega) (fun j hn => ?_)⟩
    have h1 := hj (j + 1) (by omega)
    rw [List.drop_drop]
    rwa [show 50 + j * 50 = (j + 1) * 50 from by rw [Nat.add_mul]; omega]
theorem j_1 {P : Nat → Prop} (h0 : P 0) : ∀ j, j < 1 → P j := fun j h => (Nat.lt_one_iff.mp h) ▸ h0
theorem j_2 {P : Nat → Prop} (h : ∀ j, j < 1 → P j) (h1 : P 1) : ∀ j, j < 2 → P j := fun j hj => (Nat.lt_or_eq_of_le (Nat.le_of_lt_succ hj)).elim (h j) (fun e => e ▸ h1)
theorem j_3 {P : Nat → Prop} (h : ∀ j, j < 2 → P j) (h2 : P 2) : ∀ j, j < 3 → P j := fun j hj => (Nat.lt_or_eq_of_le (Nat.le_of_lt_succ hj)).elim (h j) (fun e => e ▸ h2)
theorem j_4 {P : Nat → Prop} (h : ∀ j, j < 3 → P j) (h3 : P 3) : ∀ j, j < 4 → P j := fun j hj => (Nat.lt_or_eq_of_le (Nat.le_of_lt_succ hj)).elim (h j) (fun e => e ▸ h3)
theorem j_5 {P : Nat → Prop} (h : ∀ j, j < 4 → P j) (h4 : P 4) : ∀ j, j < 5 → P j := fun j hj => (Nat.lt_or_eq_of_le (Nat.le_of_lt_succ hj)).elim (h j) (fun e => e ▸ h4)
theorem j_6 {P : Nat → Prop} (h : ∀ j, j < 5 → P j) (h5 : P 5) : ∀ j, j < 6 → P j := fun j hj => (Nat.lt_or_eq_of_le (Nat.le_of_lt_succ hj)).elim (h j) (fun e => e ▸ h5)
theorem j_7 {P : Nat → Prop} (h : ∀ j, j < 6 → P j) (h6 : P 6) : ∀ j, j < 7 → P j := fun j hj => (Nat.lt_or_eq_of_le (Nat.le_of_lt_succ hj)).elim (h j) (fun e => e ▸ h6)
theorem j_8 {P : Nat → Prop} (h : ∀ j, j < 7 → P j) (h7 : P 7) : ∀ j, j < 8 → P j := fun j hj => (Nat.lt_or_eq_of_le (Nat.le_of_lt_succ hj)).elim (h j) (fun e => e ▸ h7)
theorem j_9 {P : Nat → Prop} (h : ∀ j, j < 8 → P j) (h8 : P 8) : ∀ j, j < 9 → P j := fun j hj => (Nat.lt_or_eq_of_le (Nat.le_of_lt_succ hj)).elim (h j) (fun e => e ▸ h8)
theorem j_10 {P : Nat → Prop} (h : ∀ j, j < 9 → P j) (h9 : P 9) : ∀ j, j < 10 → P j := fun j hj => (Nat.lt_or_eq_of_le (Nat.le_of_lt_succ hj)).elim (h j) (fun e => e ▸ h9)
theorem j_11 {P : Nat → Prop} (h : ∀ j, j < 10 → P j) (h10 : P 10) : ∀ j, j < 11 → P j := fun j hj => (Nat.lt_or_eq_of_le (Nat.le_of_lt_succ hj)).elim (h j) (fun e => e ▸ h10)
theorem j_12 {P : Nat → Prop} (h : ∀ j, j < 11 → P j) (h11 : P 11) : ∀ j, j < 12 → P j := fun j hj => (Nat.lt_or_eq_of_le (Nat.le_of_lt_succ hj)).elim (h j) (fun e => e ▸ h11)
set_option maxRecDepth 20000 in
theorem cw_0 : mtCW mt_0 := t_ALL (t_c1 (List.mem_of_getElem? (i := 42) rfl)) rfl
theorem mo_0 : mtOK mt_0 := ⟨all_50 1 il_0 (by decide +kernel) (j_1 dec_0_0), by decide +kernel, by decide +kernel, by decide +kernel⟩
set_option maxRecDepth 20000 in
theorem cw_1 : mtCW mt_1 := t_ALL (t_c1 (List.mem_of_getElem? (i := 39) rfl)) rfl
theorem mo_1 : mtOK mt_1 := ⟨all_50 1 il_1 (by decide +kernel) (j_1 dec_1_0), by decide +kernel, by decide +kernel, by decide +kernel⟩
set_option maxRecDepth 20000 in
theorem cw_2 : mtCW mt_2 := t_ALL (t_c1 (List.mem_of_getElem? (i := 71) rfl)) rfl
theorem mo_2 : mtOK mt_2 := ⟨all_50 1 il_2 (by decide +kernel) (j_1 dec_2_0), by decide +kernel, by decide +kernel, by decide +kernel⟩
set_option maxRecDepth 20000 in
theorem cw_3 : mtCW mt_3 := t_ALL (t_c1 (List.mem_of_getElem? (i := 119) rfl)) rfl
theorem mo_3 : mtOK mt_3 := ⟨all_50 1 il_3 (by decide +kernel) (j_1 dec_3_0), by decide +kernel, by decide +kernel, by decide +kernel⟩
set_option maxRecDepth 20000 in
theorem cw_4 : mtCW mt_4 := t_ALL (t_c1 (List.mem_of_getElem? (i := 143) rfl)) rfl
theorem mo_4 : mtOK mt_4 := ⟨all_50 1 il_4 (by decide +kernel) (j_1 dec_4_0), by decide +kernel, by decide +kernel, by decide +kernel⟩
set_option maxRecDepth 20000 in
theorem cw_5 : mtCW mt_5 := t_ALL (t_c1 (List.mem_of_getElem? (i := 176) rfl)) rfl
theorem mo_5 : mtOK mt_5 := ⟨all_50 1 il_5 (by decide +kernel) (j_1 dec_5_0), by decide +kernel, by decide +kernel, by decide +kernel⟩
set_option maxRecDepth 20000 in
theorem cw_6 : mtCW mt_6 := t_ALL (t_c1 (List.mem_of_getElem? (i := 201) rfl)) rfl
theorem mo_6 : mtOK mt_6 := ⟨all_50 1 il_6 (by decide +kernel) (j_1 dec_6_0), by decide +kernel, by decide +kernel, by decide +kernel⟩
set_option maxRecDepth 20000 in
theorem cw_7 : mtCW mt_7 := t_ALL (t_c1 (List.mem_of_getElem? (i := 218) rfl)) rfl
theorem mo_7 : mtOK mt_7 := ⟨all_50 1 il_7 (by decide +kernel) (j_1 dec_7_0), by decide +kernel, by decide +kernel, by decide +kernel⟩
set_option maxRecDepth 20000 in
theorem cw_8 : mtCW mt_8 := t_ALL (t_c2 (List.mem_of_getElem? (i := 21) rfl)) rfl
theorem mo_8 : mtOK mt_8 := ⟨all_50 1 il_8 (by decide +kernel) (j_1 dec_8_0), by decide +kernel, by decide +kernel, by decide +kernel⟩
set_option maxRecDepth 20000 in
theorem cw_9 : mtCW mt_9 := t_ALL (t_c1 (List.mem_of_getElem? (i := 193) rfl)) rfl
theorem mo_9 : mtOK mt_9 := ⟨all_50 2 il_9 (by decide +kernel) (j_2 (j_1 dec_9_0) dec_9_50), by decide +kernel, by decide +kernel, by decide +kernel⟩
set_option maxRecDepth 20000 in
theorem cw_10 : mtCW mt_10 := t_ALL (t_c2 (List.mem_of_getElem? (i := 89) rfl)) rfl
theorem mo_10 : mtOK mt_10 := ⟨all_50 1 il_10 (by decide +kernel) (j_1 dec_10_0), by decide +kernel, by decide +kernel, by decide +kernel⟩
set_option maxRecDepth 20000 in
theorem cw_11 : mtCW mt_11 := t_ALL (t_c1 (List.mem_of_getElem? (i := 113) rfl)) rfl
theorem mo_11 : mtOK mt_11 := ⟨all_50 2 il_11 (by decide +kernel) (j_2 (j_1 dec_11_0) dec_11_50), by decide +kernel, by decide +kernel, by decide +kernel⟩
set_option maxRecDepth 20000 in
theorem cw_12 : mtCW mt_12 := t_ALL (t_c2 (List.mem_of_getElem? (i := 185) rfl)) rfl
theorem mo_12 : mtOK mt_12 := ⟨all_50 1 il_12 (by decide +kernel) (j_1 dec_12_0), by decide +kernel, by decide +kernel, by decide +kernel⟩
set_option maxRecDepth 20000 in
theorem cw_13 : mtCW mt_13 := t_ALL (t_c2 (List.mem_of_getElem? (i := 198) rfl)) rfl
theorem mo_13 : mtOK mt_13 := ⟨all_50 1 il_13 (by decide +kernel) (j_1 dec_13_0), by decide +kernel, by decide +kernel, by decide +kernel⟩
set_option maxRecDepth 20000 in
theorem cw_14 : mtCW mt_14 := t_ALL (t_c1 (List.mem_of_getElem? (i := 31) rfl)) rfl
theorem mo_14 : mtOK mt_14 := ⟨all_50 1 il_14 (by decide +kernel) (j_1 dec_14_0), by decide +kernel, by decide +kernel, by decide +kernel⟩
set_option maxRecDepth 20000 in
theorem cw_15 : mtCW mt_15 := t_ALL (t_c6 (List.mem_of_getElem? (i := 30) rfl)) rfl
theorem mo_15 : mtOK mt_15 := ⟨all_50 6 il_15 (by decide +kernel) (j_6 (j_5 (j_4 (j_3 (j_2 (j_1 dec_15_0) dec_15_50) dec_15_100) dec_15_150) dec_15_200) dec_15_250), by decide +kernel, by decide +kernel, by decide +kernel⟩
set_option maxRecDepth 20000 in
theorem cw_16 : mtCW mt_16 := t_ALL (t_c3 (List.mem_of_getElem? (i := 6) rfl)) rfl
theorem mo_16 : mtOK mt_16 := ⟨all_50 1 il_16 (by decide +kernel) (j_1 dec_16_0), by decide +kernel, by decide +kernel, by decide +kernel⟩
set_option maxRecDepth 20000 in
theorem cw_17 : mtCW mt_17 := t_ALL (t_c3 (List.mem_of_getElem? (i := 3) rfl)) rfl
theorem mo_17 : mtOK mt_17 := ⟨all_50 1 il_17 (by decide +kernel) (j_1 dec_17_0), by decide +kernel, by decide +kernel, by decide +kernel⟩
set_option maxRecDepth 20000 in
theorem cw_18 : mtCW mt_18 := t_ALL (t_c3 (List.mem_of_getElem? (i := 28) rfl)) rfl
theorem mo_18 : mtOK mt_18 := ⟨all_50 1 il_18 (by decide +kernel) (j_1 dec_18_0), by decide +kernel, by decide +kernel, by decide +kernel⟩
set_option maxRecDepth 20000 in
theorem cw_19 : mtCW mt_19 := t_ALL (t_c3 (List.mem_of_getElem? (i := 25) rfl)) rfl
theorem mo_19 : mtOK mt_19 := ⟨all_50 1 il_19 (by decide +kernel) (j_1 dec_19_0), by decide +kernel, by decide +kernel, by decide +kernel⟩
set_option maxRecDepth 20000 in
theorem cw_20 : mtCW mt_20 := t_ALL (t_c3 (List.mem_of_getElem? (i := 22) rfl)) rfl
theorem mo_20 : mtOK mt_20 := ⟨all_50 1 il_20 (by decide +kernel) (j_1 dec_20_0), by decide +kernel, by decide +kernel, by decide +kernel⟩
set_option maxRecDepth 20000 in
theorem cw_21 : mtCW mt_21 := t_ALL (t_c3 (List.mem_of_getElem? (i := 46) rfl)) rfl
theorem mo_21 : mtOK mt_21 := ⟨all_50 1 il_21 (by decide +kernel) (j_1 dec_21_0), by decide +kernel, by decide +kernel, by decide +kernel⟩
set_option maxRecDepth 20000 in
theorem cw_22 : mtCW mt_22 := t_ALL (t_c3 (List.mem_of_getElem? (i := 36) rfl)) rfl
theorem mo_22 : mtOK mt_22 := ⟨all_50 1 il_22 (by decide +kernel) (j_1 dec_22_0), by decide +kernel, by decide +kernel, by decide +kernel⟩
set_option maxRecDepth 20000 in
theorem cw_23 : mtCW mt_23 := t_ALL (t_c3 (List.mem_of_getElem? (i := 18) rfl)) rfl
theorem mo_23 : mtOK mt_23 := ⟨all_50 1 il_23 (by decide +kernel) (j_1 dec_23_0), by decide +kernel, by decide +kernel, by decide +kernel⟩
set_option maxRecDepth 20000 in
theorem cw_24 : mtCW mt_24 := t_ALL (t_c3 (List.mem_of_getElem? (i := 54) rfl)) rfl
theorem mo_24 : mtOK mt_24 := ⟨all_50 1 il_24 (by decide +kernel) (j_1 dec_24_0), by decide +kernel, by decide +kernel, by decide +kernel⟩
set_option maxRecDepth 20000 in
theorem cw_25 : mtCW mt_25 := t_ALL (t_c3 (List.mem_of_getElem? (i := 57) rfl)) rfl
theorem mo_25 : mtOK mt_25 := ⟨all_50 1 il_25 (by decide +kernel) (j_1 dec_25_0), by decide +kernel, by decide +kernel, by decide +kernel⟩
set_option maxRecDepth 20000 in
theorem cw_26 : mtCW mt_26 := t_ALL (t_c3 (List.mem_of_getElem? (i := 14) rfl)) rfl
theorem mo_26 : mtOK mt_26 := ⟨all_50 1 il_26 (by decide +kernel) (j_1 dec_26_0), by decide +kernel, by decide +kernel, by decide +kernel⟩
set_option maxRecDepth 20000 in
theorem cw_27 : mtCW mt_27 := t_ALL (t_c3 (List.mem_of_getElem? (i := 11) rfl)) rfl
theorem mo_27 : mtOK mt_27 := ⟨all_50 1 il_27 (by decide +kernel) (j_1 dec_27_0), by decide +kernel, by decide +kernel, by decide +kernel⟩
set_option maxRecDepth 20000 in
theorem cw_28 : mtCW mt_28 := t_ALL (t_c2 (List.mem_of_getElem? (i := 238) rfl)) rfl
theorem mo_28 : mtOK mt_28 := ⟨all_50 1 il_28 (by decide +kernel) (j_1 dec_28_0), by decide +kernel, by decide +kernel, by decide +kernel⟩
set_option maxRecDepth 20000 in
theorem cw_29 : mtCW mt_29 := t_ALL (t_c7 (List.mem_of_getElem? (i := 44) rfl)) rfl
theorem mo_29 : mtOK mt_29 := ⟨all_50 1 il_29 (by decide +kernel) (j_1 dec_29_0), by decide +kernel, by decide +kernel, by decide +kernel⟩
set_option maxRecDepth 20000 in
theorem cw_30 : mtCW mt_30 := t_ALL (t_c7 (List.mem_of_getElem? (i := 41) rfl)) rfl
theorem mo_30 : mtOK mt_30 := ⟨all_50 1 il_30 (by decide +kernel) (j_1 dec_30_0), by decide +kernel, by decide +kernel, by decide +kernel⟩
set_option maxRecDepth 20000 in
theorem cw_31 : mtCW mt_31 := t_ALL (t_c3 (List.mem_of_getElem? (i := 102) rfl)) rfl
theorem mo_31 : mtOK mt_31 := ⟨all_50 1 il_31 (by decide +kernel) (j_1 dec_31_0), by decide +kernel, by decide +kernel, by decide +kernel⟩
set_option maxRecDepth 20000 in
theorem cw_32 : mtCW mt_32 := t_ALL (t_c3 (List.mem_of_getElem? (i := 99) rfl)) rfl
theorem mo_32 : mtOK mt_32 := ⟨all_50 1 il_32 (by decide +kernel) (j_1 dec_32_0), by decide +kernel, by decide +kernel, by decide +kernel⟩
set_option maxRecDepth 20000 in
theorem cw_33 : mtCW mt_33 := t_ALL (t_c3 (List.mem_of_getElem? (i := 122) rfl)) rfl
theorem mo_33 : mtOK mt_33 := ⟨all_50 1 il_33 (by decide +kernel) (j_1 dec_33_0), by decide +kernel, by decide +kernel, by decide +kernel⟩
set_option maxRecDepth 20000 in
theorem cw_34 : mtCW mt_34 := t_ALL (t_c3 (List.mem_of_getElem? (i := 119) rfl)) rfl
theorem mo_34 : mtOK mt_34 := ⟨all_50 1 il_34 (by decide +kernel) (j_1 dec_34_0), by decide +kernel, by decide +kernel, by decide +kernel⟩
set_option maxRecDepth 20000 in
theorem cw_35 : mtCW mt_35 := t_ALL (t_c3 (List.mem_of_getElem? (i := 114) rfl)) rfl
theorem mo_35 : mtOK mt_35 := ⟨all_50 1 il_35 (by decide +kernel) (j_1 dec_35_0), by decide +kernel, by decide +kernel, by decide +kernel⟩
set_option maxRecDepth 20000 in
theorem cw_36 : mtCW mt_36 := t_ALL (t_c3 (List.mem_of_getElem? (i := 148) rfl)) rfl
theorem mo_36 : mtOK mt_36 := ⟨all_50 1 il_36 (by decide +kernel) (j_1 dec_36_0), by decide +kernel, by decide +kernel, by decide +kernel⟩
set_option maxRecDepth 20000 in
theorem cw_37 : mtCW mt_37 := t_ALL (t_c3 (List.mem_of_getElem? (i := 157) rfl)) rfl
theorem mo_37 : mtOK mt_37 := ⟨all_50 1 il_37 (by decide +kernel) (j_1 dec_37_0), by decide +kernel, by decide +kernel, by decide +kernel⟩
set_option maxRecDepth 20000 in
theorem cw_38 : mtCW mt_38 := t_ALL (t_c3 (List.mem_of_getElem? (i := 153) rfl)) rfl
theorem mo_38 : mtOK mt_38 := ⟨all_50 1 il_38 (by decide +kernel) (j_1 dec_38_0), by decide +kernel, by decide +kernel, by decide +kernel⟩
set_option maxRecDepth 20000 in
theorem cw_39 : mtCW mt_39 := t_ALL (t_c3 (List.mem_of_getElem? (i := 163) rfl)) rfl
theorem mo_39 : mtOK mt_39 := ⟨all_50 1 il_39 (by decide +kernel) (j_1 dec_39_0), by decide +kernel, by decide +kernel, by decide +kernel⟩
set_option maxRecDepth 20000 in
theorem cw_40 : mtCW mt_40 := t_ALL (t_c3 (List.mem_of_getElem? (i := 168) rfl)) rfl
theorem mo_40 : mtOK mt_40 := ⟨all_50 1 il_40 (by decide +kernel) (j_1 dec_40_0), by decide +kernel, by decide +kernel, by decide +kernel⟩
set_option maxRecDepth 20000 in
theorem cw_41 : mtCW mt_41 := t_ALL (t_c3 (List.mem_of_getElem? (i := 160) rfl)) rfl
theorem mo_41 : mtOK mt_41 := ⟨all_50 1 il_41 (by decide +kernel) (j_1 dec_41_0), by decide +kernel, by decide +kernel, by decide +kernel⟩
set_option maxRecDepth 20000 in
theorem cw_42 : mtCW mt_42 := t_ALL (t_c3 (List.mem_of_getElem? (i := 144) rfl)) rfl
theorem mo_42 : mtOK mt_42 := ⟨all_50 1 il_42 (by decide +kernel) (j_1 dec_42_0), by decide +kernel, by decide +kernel, by decide +kernel⟩
set_option maxRecDepth 20000 in
theorem cw_43 : mtCW mt_43 := t_ALL (t_c3 (List.mem_of_getElem? (i := 140) rfl)) rfl
theorem mo_43 : mtOK mt_43 := ⟨all_50 1 il_43 (by decide +kernel) (j_1 dec_43_0), by decide +kernel, by decide +kernel, by decide +kernel⟩
set_option maxRecDepth 20000 in
theorem cw_44 : mtCW mt_44 := t_ALL (t_c3 (List.mem_of_getElem? (i := 207) rfl)) rfl
theorem mo_44 : mtOK mt_44 := ⟨all_50 1 il_44 (by decide +kernel) (j_1 dec_44_0), by decide +kernel, by decide +kernel, by decide +kernel⟩
set_option maxRecDepth 20000 in
theorem cw_45 : mtCW mt_45 := t_ALL (t_c3 (List.mem_of_getElem? (i := 211) rfl)) rfl
theorem mo_45 : mtOK mt_45 := ⟨all_50 1 il_45 (by decide +kernel) (j_1 dec_45_0), by decide +kernel, by decide +kernel, by decide +kernel⟩
set_option maxRecDepth 20000 in
theorem cw_46 : mtCW mt_46 := t_ALL (t_c3 (List.mem_of_getElem? (i := 219) rfl)) rfl
theorem mo_46 : mtOK mt_46 := ⟨all_50 1 il_46 (by decide +kernel) (j_1 dec_46_0), by decide +kernel, by decide +kernel, by decide +kernel⟩
set_option maxRecDepth 20000 in
theorem cw_47 : mtCW mt_47 := t_ALL (t_c3 (List.mem_of_getElem? (i := 215) rfl)) rfl
theorem mo_47 : mtOK mt_47 := ⟨all_50 1 il_47 (by decide +kernel) (j_1 dec_47_0), by decide +kernel, by decide +kernel, by decide +kernel⟩
set_option maxRecDepth 20000 in
theorem cw_48 : mtCW mt_48 := t_ALL (t_c3 (List.mem_of_getElem? (i := 223) rfl)) rfl
theorem mo_48 : mtOK mt_48 := ⟨all_50 1 il_48 (by decide +kernel) (j_1 dec_48_0), by decide +kernel, by decide +kernel, by decide +kernel⟩
set_option maxRecDepth 20000 in
theorem cw_49 : mtCW mt_49 := t_ALL (t_c3 (List.mem_of_getElem? (i := 231) rfl)) rfl
theorem mo_49 : mtOK mt_49 := ⟨all_50 1 il_49 (by decide +kernel) (j_1 dec_49_0), by decide +kernel, by decide +kernel, by decide +kernel⟩
set_option maxRecDepth 20000 in
theorem cw_50 : mtCW mt_50 := t_ALL (t_c3 (List.mem_of_getElem? (i := 227) rfl)) rfl
theorem mo_50 : mtOK mt_50 := ⟨all_50 1 il_50 (by decide +kernel) (j_1 dec_50_0), by decide +kernel, by decide +kernel, by decide +kernel⟩
set_option maxRecDepth 20000 in
theorem cw_51 : mtCW mt_51 := t_ALL (t_c3 (List.mem_of_getElem? (i := 135) rfl)) rfl
theorem mo_51 : mtOK mt_51 := ⟨all_50 2 il_51 (by decide +kernel) (j_2 (j_1 dec_51_0) dec_51_50), by decide +kernel, by decide +kernel, by decide +kernel⟩
set_option maxRecDepth 20000 in
theorem cw_52 : mtCW mt_52 := t_ALL (t_c3 (List.mem_of_getElem? (i := 131) rfl)) rfl
theorem mo_52 : mtOK mt_52 := ⟨all_50 1 il_52 (by decide +kernel) (j_1 dec_52_0), by decide +kernel, by decide +kernel, by decide +kernel⟩
set_option maxRecDepth 20000 in
theorem cw_53 : mtCW mt_53 := t_ALL (t_c3 (List.mem_of_getElem? (i := 110) rfl)) rfl
theorem mo_53 : mtOK mt_53 := ⟨all_50 1 il_53 (by decide +kernel) (j_1 dec_53_0), by decide +kernel, by decide +kernel, by decide +kernel⟩
set_option maxRecDepth 20000 in
theorem cw_54 : mtCW mt_54 := t_ALL (t_c3 (List.mem_of_getElem? (i := 238) rfl)) rfl
theorem mo_54 : mtOK mt_54 := ⟨all_50 1 il_54 (by decide +kernel) (j_1 dec_54_0), by decide +kernel, by decide +kernel, by decide +kernel⟩
set_option maxRecDepth 20000 in
theorem cw_55 : mtCW mt_55 := t_ALL (t_c3 (List.mem_of_getElem? (i := 235) rfl)) rfl
theorem mo_55 : mtOK mt_55 := ⟨all_50 1 il_55 (by decide +kernel) (j_1 dec_55_0), by decide +kernel, by decide +kernel, by decide +kernel⟩
set_option maxRecDepth 20000 in
theorem cw_56 : mtCW mt_56 := t_ALL (t_c4 (List.mem_of_getElem? (i := 19) rfl)) rfl
theorem mo_56 : mtOK mt_56 := ⟨all_50 1 il_56 (by decide +kernel) (j_1 dec_56_0), by decide +kernel, by decide +kernel, by decide +kernel⟩
set_option maxRecDepth 20000 in
theorem cw_57 : mtCW mt_57 := t_ALL (t_c4 (List.mem_of_getElem? (i := 35) rfl)) rfl
theorem mo_57 : mtOK mt_57 := ⟨all_50 1 il_57 (by decide +kernel) (j_1 dec_57_0), by decide +kernel, by decide +kernel, by decide +kernel⟩
set_option maxRecDepth 20000 in
theorem cw_58 : mtCW mt_58 := t_ALL (t_c4 (List.mem_of_getElem? (i := 32) rfl)) rfl
theorem mo_58 : mtOK mt_58 := ⟨all_50 1 il_58 (by decide +kernel) (j_1 dec_58_0), by decide +kernel, by decide +kernel, by decide +kernel⟩
set_option maxRecDepth 20000 in
theorem cw_59 : mtCW mt_59 := t_ALL (t_c4 (List.mem_of_getElem? (i := 43) rfl)) rfl
theorem mo_59 : mtOK mt_59 := ⟨all_50 1 il_59 (by decide +kernel) (j_1 dec_59_0), by decide +kernel, by decide +kernel, by decide +kernel⟩
set_option maxRecDepth 20000 in
theorem cw_60 : mtCW mt_60 := t_ALL (t_c4 (List.mem_of_getElem? (i := 39) rfl)) rfl
theorem mo_60 : mtOK mt_60 := ⟨all_50 1 il_60 (by decide +kernel) (j_1 dec_60_0), by decide +kernel, by decide +kernel, by decide +kernel⟩
set_option maxRecDepth 20000 in
theorem cw_61 : mtCW mt_61 := t_ALL (t_c4 (List.mem_of_getElem? (i := 28) rfl)) rfl
theorem mo_61 : mtOK mt_61 := ⟨all_50 1 il_61 (by decide +kernel) (j_1 dec_61_0), by decide +kernel, by decide +kernel, by decide +kernel⟩
set_option maxRecDepth 20000 in
theorem cw_62 : mtCW mt_62 := t_ALL (t_c4 (List.mem_of_getElem? (i := 47) rfl)) rfl
theorem mo_62 : mtOK mt_62 := ⟨all_50 1 il_62 (by decide +kernel) (j_1 dec_62_0), by decide +kernel, by decide +kernel, by decide +kernel⟩
set_option maxRecDepth 20000 in
theorem cw_63 : mtCW mt_63 := t_ALL (t_c4 (List.mem_of_getElem? (i := 60) rfl)) rfl
theorem mo_63 : mtOK mt_63 := ⟨all_50 1 il_63 (by decide +kernel) (j_1 dec_63_0), by decide +kernel, by decide +kernel, by decide +kernel⟩
set_option maxRecDepth 20000 in
theorem cw_64 : mtCW mt_64 := t_ALL (t_c4 (List.mem_of_getElem? (i := 56) rfl)) rfl
theorem mo_64 : mtOK mt_64 := ⟨all_50 1 il_64 (by decide +kernel) (j_1 dec_64_0), by decide +kernel, by decide +kernel, by decide +kernel⟩
set_option maxRecDepth 20000 in
theorem cw_65 : mtCW mt_65 := t_ALL (t_c4 (List.mem_of_getElem? (i := 68) rfl)) rfl
theorem mo_65 : mtOK mt_65 := ⟨all_50 1 il_65 (by decide +kernel) (j_1 dec_65_0), by decide +kernel, by decide +kernel, by decide +kernel⟩
set_option maxRecDepth 20000 in
theorem cw_66 : mtCW mt_66 := t_ALL (t_c4 (List.mem_of_getElem? (i := 73) rfl)) rfl
theorem mo_66 : mtOK mt_66 := ⟨all_50 1 il_66 (by decide +kernel) (j_1 dec_66_0), by decide +kernel, by decide +kernel, by decide +kernel⟩
set_option maxRecDepth 20000 in
theorem cw_67 : mtCW mt_67 := t_ALL (t_c4 (List.mem_of_getElem? (i := 64) rfl)) rfl
theorem mo_67 : mtOK mt_67 := ⟨all_50 1 il_67 (by decide +kernel) (j_1 dec_67_0), by decide +kernel, by decide +kernel, by decide +kernel⟩
set_option maxRecDepth 20000 in
theorem cw_68 : mtCW mt_68 := t_ALL (t_c4 (List.mem_of_getElem? (i := 52) rfl)) rfl
theorem mo_68 : mtOK mt_68 := ⟨all_50 1 il_68 (by decide +kernel) (j_1 dec_68_0), by decide +kernel, by decide +kernel, by decide +kernel⟩
set_option maxRecDepth 20000 in
theorem cw_69 : mtCW mt_69 := t_ALL (t_c4 (List.mem_of_getElem? (i := 24) rfl)) rfl
theorem mo_69 : mtOK mt_69 := ⟨all_50 1 il_69 (by decide +kernel) (j_1 dec_69_0), by decide +kernel, by decide +kernel, by decide +kernel⟩
set_option maxRecDepth 20000 in
theorem cw_70 : mtCW mt_70 := t_ALL (t_c4 (List.mem_of_getElem? (i := 15) rfl)) rfl
theorem mo_70 : mtOK mt_70 := ⟨all_50 2 il_70 (by decide +kernel) (j_2 (j_1 dec_70_0) dec_70_50), by decide +kernel, by decide +kernel, by decide +kernel⟩
set_option maxRecDepth 20000 in
theorem cw_71 : mtCW mt_71 := t_ALL (t_c4 (List.mem_of_getElem? (i := 78) rfl)) rfl
theorem mo_71 : mtOK mt_71 := ⟨all_50 1 il_71 (by decide +kernel) (j_1 dec_71_0), by decide +kernel, by decide +kernel, by decide +kernel⟩
set_option maxRecDepth 20000 in
theorem cw_72 : mtCW mt_72 := t_ALL (t_c3 (List.mem_of_getElem? (i := 106) rfl)) rfl
theorem mo_72 : mtOK mt_72 := ⟨all_50 1 il_72 (by decide +kernel) (j_1 dec_72_0), by decide +kernel, by decide +kernel, by decide +kernel⟩
set_option maxRecDepth 20000 in
theorem cw_73 : mtCW mt_73 := t_ALL (t_c7 (List.mem_of_getElem? (i := 54) rfl)) rfl
theorem mo_73 : mtOK mt_73 := ⟨all_50 1 il_73 (by decide +kernel) (j_1 dec_73_0), by decide +kernel, by decide +kernel, by decide +kernel⟩
set_option maxRecDepth 20000 in
theorem cw_74 : mtCW mt_74 := t_ALL (t_c7 (List.mem_of_getElem? (i := 61) rfl)) rfl
theorem mo_74 : mtOK mt_74 := ⟨all_50 1 il_74 (by decide +kernel) (j_1 dec_74_0), by decide +kernel, by decide +kernel, by decide +kernel⟩
set_option maxRecDepth 20000 in
theorem cw_75 : mtCW mt_75 := t_ALL (t_c7 (List.mem_of_getElem? (i := 65) rfl)) rfl
theorem mo_75 : mtOK mt_75 := ⟨all_50 1 il_75 (by decide +kernel) (j_1 dec_75_0), by decide +kernel, by decide +kernel, by decide +kernel⟩
set_option maxRecDepth 20000 in
theorem cw_76 : mtCW mt_76 := t_ALL (t_c7 (List.mem_of_getElem? (i := 69) rfl)) rfl
theorem mo_76 : mtOK mt_76 := ⟨all_50 2 il_76 (by decide +kernel) (j_2 (j_1 dec_76_0) dec_76_50), by decide +kernel, by decide +kernel, by decide +kernel⟩
set_option maxRecDepth 20000 in
theorem cw_77 : mtCW mt_77 := t_ALL (t_c7 (List.mem_of_getElem? (i := 73) rfl)) rfl
theorem mo_77 : mtOK mt_77 := ⟨all_50 1 il_77 (by decide +kernel) (j_1 dec_77_0), by decide +kernel, by decide +kernel, by decide +kernel⟩
set_option maxRecDepth 20000 in
theorem cw_78 : mtCW mt_78 := t_ALL (t_c7 (List.mem_of_getElem? (i := 58) rfl)) rfl
theorem mo_78 : mtOK mt_78 := ⟨all_50 3 il_78 (by decide +kernel) (j_3 (j_2 (j_1 dec_78_0) dec_78_50) dec_78_100), by decide +kernel, by decide +kernel, by decide +kernel⟩
set_option maxRecDepth 20000 in
theorem cw_79 : mtCW mt_79 := t_ALL (t_c7 (List.mem_of_getElem? (i := 81) rfl)) rfl
theorem mo_79 : mtOK mt_79 := ⟨all_50 3 il_79 (by decide +kernel) (j_3 (j_2 (j_1 dec_79_0) dec_79_50) dec_79_100), by decide +kernel, by decide +kernel, by decide +kernel⟩
set_option maxRecDepth 20000 in
theorem cw_80 : mtCW mt_80 := t_ALL (t_c7 (List.mem_of_getElem? (i := 77) rfl)) rfl
theorem mo_80 : mtOK mt_80 := ⟨all_50 2 il_80 (by decide +kernel) (j_2 (j_1 dec_80_0) dec_80_50), by decide +kernel, by decide +kernel, by decide +kernel⟩
set_option maxRecDepth 20000 in
theorem cw_81 : mtCW mt_81 := t_ALL (t_c7 (List.mem_of_getElem? (i := 50) rfl)) rfl
theorem mo_81 : mtOK mt_81 := ⟨all_50 4 il_81 (by decide +kernel) (j_4 (j_3 (j_2 (j_1 dec_81_0) dec_81_50) dec_81_100) dec_81_150), by decide +kernel, by decide +kernel, by decide +kernel⟩
set_option maxRecDepth 20000 in
theorem cw_82 : mtCW mt_82 := t_ALL (t_c4 (List.mem_of_getElem? (i := 89) rfl)) rfl
theorem mo_82 : mtOK mt_82 := ⟨all_50 1 il_82 (by decide +kernel) (j_1 dec_82_0), by decide +kernel, by decide +kernel, by decide +kernel⟩
set_option maxRecDepth 20000 in
theorem cw_83 : mtCW mt_83 := t_ALL (t_c4 (List.mem_of_getElem? (i := 93) rfl)) rfl
theorem mo_83 : mtOK mt_83 := ⟨all_50 1 il_83 (by decide +kernel) (j_1 dec_83_0), by decide +kernel, by decide +kernel, by decide +kernel⟩
set_option maxRecDepth 20000 in
theorem cw_84 : mtCW mt_84 := t_ALL (t_c4 (List.mem_of_getElem? (i := 84) rfl)) rfl
theorem mo_84 : mtOK mt_84 := ⟨all_50 1 il_84 (by decide +kernel) (j_1 dec_84_0), by decide +kernel, by decide +kernel, by decide +kernel⟩
set_option maxRecDepth 20000 in
theorem cw_85 : mtCW mt_85 := t_ALL (t_c7 (List.mem_of_getElem? (i := 85) rfl)) rfl
theorem mo_85 : mtOK mt_85 := ⟨all_50 2 il_85 (by decide +kernel) (j_2 (j_1 dec_85_0) dec_85_50), by decide +kernel, by decide +kernel, by decide +kernel⟩
set_option maxRecDepth 20000 in
theorem cw_86 : mtCW mt_86 := t_ALL (t_c4 (List.mem_of_getElem? (i := 101) rfl)) rfl
theorem mo_86 : mtOK mt_86 := ⟨all_50 1 il_86 (by decide +kernel) (j_1 dec_86_0), by decide +kernel, by decide +kernel, by decide +kernel⟩
set_option maxRecDepth 20000 in
theorem cw_87 : mtCW mt_87 := t_ALL (t_c4 (List.mem_of_getElem? (i := 97) rfl)) rfl
theorem mo_87 : mtOK mt_87 := ⟨all_50 1 il_87 (by decide +kernel) (j_1 dec_87_0), by decide +kernel, by decide +kernel, by decide +kernel⟩
set_option maxRecDepth 20000 in
theorem cw_88 : mtCW mt_88 := t_ALL (t_c7 (List.mem_of_getElem? (i := 90) rfl)) rfl
theorem mo_88 : mtOK mt_88 := ⟨all_50 1 il_88 (by decide +kernel) (j_1 dec_88_0), by decide +kernel, by decide +kernel, by decide +kernel⟩
set_option maxRecDepth 20000 in
theorem cw_89 : mtCW mt_89 := t_ALL (t_c4 (List.mem_of_getElem? (i := 113) rfl)) rfl
theorem mo_89 : mtOK mt_89 := ⟨all_50 1 il_89 (by decide +kernel) (j_1 dec_89_0), by decide +kernel, by decide +kernel, by decide +kernel⟩
set_option maxRecDepth 20000 in
theorem cw_90 : mtCW mt_90 := t_ALL (t_c4 (List.mem_of_getElem? (i := 121) rfl)) rfl
theorem mo_90 : mtOK mt_90 := ⟨all_50 1 il_90 (by decide +kernel) (j_1 dec_90_0), by decide +kernel, by decide +kernel, by decide +kernel⟩
set_option maxRecDepth 20000 in
theorem cw_91 : mtCW mt_91 := t_ALL (t_c4 (List.mem_of_getElem? (i := 125) rfl)) rfl
theorem mo_91 : mtOK mt_91 := ⟨all_50 1 il_91 (by decide +kernel) (j_1 dec_91_0), by decide +kernel, by decide +kernel, by decide +kernel⟩
set_option maxRecDepth 20000 in
theorem cw_92 : mtCW mt_92 := t_ALL (t_c4 (List.mem_of_getElem? (i := 117) rfl)) rfl
theorem mo_92 : mtOK mt_92 := ⟨all_50 1 il_92 (by decide +kernel) (j_1 dec_92_0), by decide +kernel, by decide +kernel, by decide +kernel⟩
set_option maxRecDepth 20000 in
theorem cw_93 : mtCW mt_93 := t_ALL (t_c4 (List.mem_of_getElem? (i := 109) rfl)) rfl
theorem mo_93 : mtOK mt_93 := ⟨all_50 1 il_93 (by decide +kernel) (j_1 dec_93_0), by decide +kernel, by decide +kernel, by decide +kernel⟩
set_option maxRecDepth 20000 in
theorem cw_94 : mtCW mt_94 := t_ALL (t_c4 (List.mem_of_getElem? (i := 137) rfl)) rfl
theorem mo_94 : mtOK mt_94 := ⟨all_50 1 il_94 (by decide +kernel) (j_1 dec_94_0), by decide +kernel, by decide +kernel, by decide +kernel⟩
set_option maxRecDepth 20000 in
theorem cw_95 : mtCW mt_95 := t_ALL (t_c4 (List.mem_of_getElem? (i := 145) rfl)) rfl
theorem mo_95 : mtOK mt_95 := ⟨all_50 1 il_95 (by decide +kernel) (j_1 dec_95_0), by decide +kernel, by decide +kernel, by decide +kernel⟩
set_option maxRecDepth 20000 in
theorem cw_96 : mtCW mt_96 := t_ALL (t_c4 (List.mem_of_getElem? (i := 141) rfl)) rfl
theorem mo_96 : mtOK mt_96 := ⟨all_50 1 il_96 (by decide +kernel) (j_1 dec_96_0), by decide +kernel, by decide +kernel, by decide +kernel⟩
set_option maxRecDepth 20000 in
theorem cw_97 : mtCW mt_97 := t_ALL (t_c4 (List.mem_of_getElem? (i := 133) rfl)) rfl
theorem mo_97 : mtOK mt_97 := ⟨all_50 1 il_97 (by decide +kernel) (j_1 dec_97_0), by decide +kernel, by decide +kernel, by decide +kernel⟩
set_option maxRecDepth 20000 in
theorem cw_98 : mtCW mt_98 := t_ALL (t_c4 (List.mem_of_getElem? (i := 161) rfl)) rfl
theorem mo_98 : mtOK mt_98 := ⟨all_50 1 il_98 (by decide +kernel) (j_1 dec_98_0), by decide +kernel, by decide +kernel, by decide +kernel⟩
set_option maxRecDepth 20000 in
theorem cw_99 : mtCW mt_99 := t_ALL (t_c4 (List.mem_of_getElem? (i := 165) rfl)) rfl
theorem mo_99 : mtOK mt_99 := ⟨all_50 1 il_99 (by decide +kernel) (j_1 dec_99_0), by decide +kernel, by decide +kernel, by decide +kernel⟩
set_option maxRecDepth 20000 in
theorem cw_100 : mtCW mt_100 := t_ALL (t_c4 (List.mem_of_getElem? (i := 169) rfl)) rfl
theorem mo_100 : mtOK mt_100 := ⟨all_50 1 il_100 (by decide +kernel) (j_1 dec_100_0), by decide +kernel, by decide +kernel, by decide +kernel⟩
set_option maxRecDepth 20000 in
theorem cw_101 : mtCW mt_101 := t_ALL (t_c4 (List.mem_of_getElem? (i := 172) rfl)) rfl
theorem mo_101 : mtOK mt_101 := ⟨all_50 1 il_101 (by decide +kernel) (j_1 dec_101_0), by decide +kernel, by decide +kernel, by decide +kernel⟩
set_option maxRecDepth 20000 in
theorem cw_102 : mtCW mt_102 := t_ALL (t_c4 (List.mem_of_getElem? (i := 157) rfl)) rfl
theorem mo_102 : mtOK mt_102 := ⟨all_50 1 il_102 (by decide +kernel) (j_1 dec_102_0), by decide +kernel, by decide +kernel, by decide +kernel⟩
set_option maxRecDepth 20000 in
theorem cw_103 : mtCW mt_103 := t_ALL (t_c4 (List.mem_of_getElem? (i := 176) rfl)) rfl
theorem mo_103 : mtOK mt_103 := ⟨all_50 2 il_103 (by decide +kernel) (j_2 (j_1 dec_103_0) dec_103_50), by decide +kernel, by decide +kernel, by decide +kernel⟩
set_option maxRecDepth 20000 in
theorem cw_104 : mtCW mt_104 := t_ALL (t_c4 (List.mem_of_getElem? (i := 180) rfl)) rfl
theorem mo_104 : mtOK mt_104 := ⟨all_50 1 il_104 (by decide +kernel) (j_1 dec_104_0), by decide +kernel, by decide +kernel, by decide +kernel⟩
set_option maxRecDepth 20000 in
theorem cw_105 : mtCW mt_105 := t_ALL (t_c4 (List.mem_of_getElem? (i := 184) rfl)) rfl
theorem mo_105 : mtOK mt_105 := ⟨all_50 1 il_105 (by decide +kernel) (j_1 dec_105_0), by decide +kernel, by decide +kernel, by decide +kernel⟩
set_option maxRecDepth 20000 in
theorem cw_106 : mtCW mt_106 := t_ALL (t_c4 (List.mem_of_getElem? (i := 188) rfl)) rfl
theorem mo_106 : mtOK mt_106 := ⟨all_50 1 il_106 (by decide +kernel) (j_1 dec_106_0), by decide +kernel, by decide +kernel, by decide +kernel⟩
set_option maxRecDepth 20000 in
theorem cw_107 : mtCW mt_107 := t_ALL (t_c4 (List.mem_of_getElem? (i := 192) rfl)) rfl
theorem mo_107 : mtOK mt_107 := ⟨all_50 1 il_107 (by decide +kernel) (j_1 dec_107_0), by decide +kernel, by decide +kernel, by decide +kernel⟩
set_option maxRecDepth 20000 in
theorem cw_108 : mtCW mt_108 := t_ALL (t_c4 (List.mem_of_getElem? (i := 197) rfl)) rfl
theorem mo_108 : mtOK mt_108 := ⟨all_50 1 il_108 (by decide +kernel) (j_1 dec_108_0), by decide +kernel, by decide +kernel, by decide +kernel⟩
set_option maxRecDepth 20000 in
theorem cw_109 : mtCW mt_109 := t_ALL (t_c4 (List.mem_of_getElem? (i := 153) rfl)) rfl
theorem mo_109 : mtOK mt_109 := ⟨all_50 2 il_109 (by decide +kernel) (j_2 (j_1 dec_109_0) dec_109_50), by decide +kernel, by decide +kernel, by decide +kernel⟩
set_option maxRecDepth 20000 in
theorem cw_110 : mtCW mt_110 := t_ALL (t_c4 (List.mem_of_getElem? (i := 209) rfl)) rfl
theorem mo_110 : mtOK mt_110 := ⟨all_50 1 il_110 (by decide +kernel) (j_1 dec_110_0), by decide +kernel, by decide +kernel, by decide +kernel⟩
set_option maxRecDepth 20000 in
theorem cw_111 : mtCW mt_111 := t_ALL (t_c4 (List.mem_of_getElem? (i := 205) rfl)) rfl
theorem mo_111 : mtOK mt_111 := ⟨all_50 1 il_111 (by decide +kernel) (j_1 dec_111_0), by decide +kernel, by decide +kernel, by decide +kernel⟩
set_option maxRecDepth 20000 in
theorem cw_112 : mtCW mt_112 := t_ALL (t_c4 (List.mem_of_getElem? (i := 213) rfl)) rfl
theorem mo_112 : mtOK mt_112 := ⟨all_50 1 il_112 (by decide +kernel) (j_1 dec_112_0), by decide +kernel, by decide +kernel, by decide +kernel⟩
set_option maxRecDepth 20000 in
theorem cw_113 : mtCW mt_113 := t_ALL (t_c4 (List.mem_of_getElem? (i := 201) rfl)) rfl
theorem mo_113 : mtOK mt_113 := ⟨all_50 1 il_113 (by decide +kernel) (j_1 dec_113_0), by decide +kernel, by decide +kernel, by decide +kernel⟩
set_option maxRecDepth 20000 in
theorem cw_114 : mtCW mt_114 := t_ALL (t_c4 (List.mem_of_getElem? (i := 217) rfl)) rfl
theorem mo_114 : mtOK mt_114 := ⟨all_50 1 il_114 (by decide +kernel) (j_1 dec_114_0), by decide +kernel, by decide +kernel, by decide +kernel⟩
set_option maxRecDepth 20000 in
theorem cw_115 : mtCW mt_115 := t_ALL (t_c4 (List.mem_of_getElem? (i := 230) rfl)) rfl
theorem mo_115 : mtOK mt_115 := ⟨all_50 1 il_115 (by decide +kernel) (j_1 dec_115_0), by decide +kernel, by decide +kernel, by decide +kernel⟩
set_option maxRecDepth 20000 in
theorem cw_116 : mtCW mt_116 := t_ALL (t_c4 (List.mem_of_getElem? (i := 226) rfl)) rfl
theorem mo_116 : mtOK mt_116 := ⟨all_50 2 il_116 (by decide +kernel) (j_2 (j_1 dec_116_0) dec_116_50), by decide +kernel, by decide +kernel, by decide +kernel⟩
set_option maxRecDepth 20000 in
theorem cw_117 : mtCW mt_117 := t_ALL (t_c4 (List.mem_of_getElem? (i := 234) rfl)) rfl
theorem mo_117 : mtOK mt_117 := ⟨all_50 1 il_117 (by decide +kernel) (j_1 dec_117_0), by decide +kernel, by decide +kernel, by decide +kernel⟩
set_option maxRecDepth 20000 in
theorem cw_118 : mtCW mt_118 := t_ALL (t_c4 (List.mem_of_getElem? (i := 238) rfl)) rfl
theorem mo_118 : mtOK mt_118 := ⟨all_50 1 il_118 (by decide +kernel) (j_1 dec_118_0), by decide +kernel, by decide +kernel, by decide +kernel⟩
set_option maxRecDepth 20000 in
theorem cw_119 : mtCW mt_119 := t_ALL (t_c5 (List.mem_of_getElem? (i := 12) rfl)) rfl
theorem mo_119 : mtOK mt_119 := ⟨all_50 1 il_119 (by decide +kernel) (j_1 dec_119_0), by decide +kernel, by decide +kernel, by decide +kernel⟩
set_option maxRecDepth 20000 in
theorem cw_120 : mtCW mt_120 := t_ALL (t_c5 (List.mem_of_getElem? (i := 7) rfl)) rfl
theorem mo_120 : mtOK mt_120 := ⟨all_50 1 il_120 (by decide +kernel) (j_1 dec_120_0), by decide +kernel, by decide +kernel, by decide +kernel⟩
set_option maxRecDepth 20000 in
theorem cw_121 : mtCW mt_121 := t_ALL (t_c5 (List.mem_of_getElem? (i := 3) rfl)) rfl
theorem mo_121 : mtOK mt_121 := ⟨all_50 1 il_121 (by decide +kernel) (j_1 dec_121_0), by decide +kernel, by decide +kernel, by decide +kernel⟩
set_option maxRecDepth 20000 in
theorem cw_122 : mtCW mt_122 := t_ALL (t_c5 (List.mem_of_getElem? (i := 22) rfl)) rfl
theorem mo_122 : mtOK mt_122 := ⟨all_50 1 il_122 (by decide +kernel) (j_1 dec_122_0), by decide +kernel, by decide +kernel, by decide +kernel⟩
set_option maxRecDepth 20000 in
theorem cw_123 : mtCW mt_123 := t_ALL (t_c5 (List.mem_of_getElem? (i := 16) rfl)) rfl
theorem mo_123 : mtOK mt_123 := ⟨all_50 1 il_123 (by decide +kernel) (j_1 dec_123_0), by decide +kernel, by decide +kernel, by decide +kernel⟩
set_option maxRecDepth 20000 in
theorem cw_124 : mtCW mt_124 := t_ALL (t_c5 (List.mem_of_getElem? (i := 36) rfl)) rfl
theorem mo_124 : mtOK mt_124 := ⟨all_50 1 il_124 (by decide +kernel) (j_1 dec_124_0), by decide +kernel, by decide +kernel, by decide +kernel⟩
set_option maxRecDepth 20000 in
theorem cw_125 : mtCW mt_125 := t_ALL (t_c5 (List.mem_of_getElem? (i := 45) rfl)) rfl
theorem mo_125 : mtOK mt_125 := ⟨all_50 1 il_125 (by decide +kernel) (j_1 dec_125_0), by decide +kernel, by decide +kernel, by decide +kernel⟩
set_option maxRecDepth 20000 in
theorem cw_126 : mtCW mt_126 := t_ALL (t_c5 (List.mem_of_getElem? (i := 49) rfl)) rfl
theorem mo_126 : mtOK mt_126 := ⟨all_50 1 il_126 (by decide +kernel) (j_1 dec_126_0), by decide +kernel, by decide +kernel, by decide +kernel⟩
set_option maxRecDepth 20000 in
theorem cw_127 : mtCW mt_127 := t_ALL (t_c5 (List.mem_of_getElem? (i := 53) rfl)) rfl
theorem mo_127 : mtOK mt_127 := ⟨all_50 1 il_127 (by decide +kernel) (j_1 dec_127_0), by decide +kernel, by decide +kernel, by decide +kernel⟩
set_option maxRecDepth 20000 in
theorem cw_128 : mtCW mt_128 := t_ALL (t_c5 (List.mem_of_getElem? (i := 57) rfl)) rfl
theorem mo_128 : mtOK mt_128 := ⟨all_50 1 il_128 (by decide +kernel) (j_1 dec_128_0), by decide +kernel, by decide +kernel, by decide +kernel⟩
set_option maxRecDepth 20000 in
theorem cw_129 : mtCW mt_129 := t_ALL (t_c5 (List.mem_of_getElem? (i := 41) rfl)) rfl
theorem mo_129 : mtOK mt_129 := ⟨all_50 1 il_129 (by decide +kernel) (j_1 dec_129_0), by decide +kernel, by decide +kernel, by decide +kernel⟩
set_option maxRecDepth 20000 in
theorem cw_130 : mtCW mt_130 := t_ALL (t_c5 (List.mem_of_getElem? (i := 61) rfl)) rfl
theorem mo_130 : mtOK mt_130 := ⟨all_50 1 il_130 (by decide +kernel) (j_1 dec_130_0), by decide +kernel, by decide +kernel, by decide +kernel⟩
set_option maxRecDepth 20000 in
theorem cw_131 : mtCW mt_131 := t_ALL (t_c5 (List.mem_of_getElem? (i := 31) rfl)) rfl
theorem mo_131 : mtOK mt_131 := ⟨all_50 3 il_131 (by decide +kernel) (j_3 (j_2 (j_1 dec_131_0) dec_131_50) dec_131_100), by decide +kernel, by decide +kernel, by decide +kernel⟩
set_option maxRecDepth 20000 in
theorem cw_132 : mtCW mt_132 := t_ALL (t_c4 (List.mem_of_getElem? (i := 222) rfl)) rfl
theorem mo_132 : mtOK mt_132 := ⟨all_50 3 il_132 (by decide +kernel) (j_3 (j_2 (j_1 dec_132_0) dec_132_50) dec_132_100), by decide +kernel, by decide +kernel, by decide +kernel⟩
set_option maxRecDepth 20000 in
theorem cw_133 : mtCW mt_133 := t_ALL (t_c4 (List.mem_of_getElem? (i := 149) rfl)) rfl
theorem mo_133 : mtOK mt_133 := ⟨all_50 2 il_133 (by decide +kernel) (j_2 (j_1 dec_133_0) dec_133_50), by decide +kernel, by decide +kernel, by decide +kernel⟩
set_option maxRecDepth 20000 in
theorem cw_134 : mtCW mt_134 := t_ALL (t_c5 (List.mem_of_getElem? (i := 69) rfl)) rfl
theorem mo_134 : mtOK mt_134 := ⟨all_50 1 il_134 (by decide +kernel) (j_1 dec_134_0), by decide +kernel, by decide +kernel, by decide +kernel⟩
set_option maxRecDepth 20000 in
theorem cw_135 : mtCW mt_135 := t_ALL (t_c5 (List.mem_of_getElem? (i := 65) rfl)) rfl
theorem mo_135 : mtOK mt_135 := ⟨all_50 1 il_135 (by decide +kernel) (j_1 dec_135_0), by decide +kernel, by decide +kernel, by decide +kernel⟩
set_option maxRecDepth 20000 in
theorem cw_136 : mtCW mt_136 := t_ALL (t_c4 (List.mem_of_getElem? (i := 129) rfl)) rfl
theorem mo_136 : mtOK mt_136 := ⟨all_50 2 il_136 (by decide +kernel) (j_2 (j_1 dec_136_0) dec_136_50), by decide +kernel, by decide +kernel, by decide +kernel⟩
set_option maxRecDepth 20000 in
theorem cw_137 : mtCW mt_137 := t_ALL (t_c4 (List.mem_of_getElem? (i := 105) rfl)) rfl
theorem mo_137 : mtOK mt_137 := ⟨all_50 1 il_137 (by decide +kernel) (j_1 dec_137_0), by decide +kernel, by decide +kernel, by decide +kernel⟩
set_option maxRecDepth 20000 in
theorem cw_138 : mtCW mt_138 := t_ALL (t_c7 (List.mem_of_getElem? (i := 108) rfl)) rfl
theorem mo_138 : mtOK mt_138 := ⟨all_50 1 il_138 (by decide +kernel) (j_1 dec_138_0), by decide +kernel, by decide +kernel, by decide +kernel⟩
set_option maxRecDepth 20000 in
theorem cw_139 : mtCW mt_139 := t_ALL (t_c7 (List.mem_of_getElem? (i := 116) rfl)) rfl
theorem mo_139 : mtOK mt_139 := ⟨all_50 2 il_139 (by decide +kernel) (j_2 (j_1 dec_139_0) dec_139_50), by decide +kernel, by decide +kernel, by decide +kernel⟩
set_option maxRecDepth 20000 in
theorem cw_140 : mtCW mt_140 := t_ALL (t_c7 (List.mem_of_getElem? (i := 120) rfl)) rfl
theorem mo_140 : mtOK mt_140 := ⟨all_50 1 il_140 (by decide +kernel) (j_1 dec_140_0), by decide +kernel, by decide +kernel, by decide +kernel⟩
set_option maxRecDepth 20000 in
theorem cw_141 : mtCW mt_141 := t_ALL (t_c7 (List.mem_of_getElem? (i := 131) rfl)) rfl
theorem mo_141 : mtOK mt_141 := ⟨all_50 1 il_141 (by decide +kernel) (j_1 dec_141_0), by decide +kernel, by decide +kernel, by decide +kernel⟩
set_option maxRecDepth 20000 in
theorem cw_142 : mtCW mt_142 := t_ALL (t_c7 (List.mem_of_getElem? (i := 139) rfl)) rfl
theorem mo_142 : mtOK mt_142 := ⟨all_50 1 il_142 (by decide +kernel) (j_1 dec_142_0), by decide +kernel, by decide +kernel, by decide +kernel⟩
set_option maxRecDepth 20000 in
theorem cw_143 : mtCW mt_143 := t_ALL (t_c7 (List.mem_of_getElem? (i := 143) rfl)) rfl
theorem mo_143 : mtOK mt_143 := ⟨all_50 1 il_143 (by decide +kernel) (j_1 dec_143_0), by decide +kernel, by decide +kernel, by decide +kernel⟩
set_option maxRecDepth 20000 in
theorem cw_144 : mtCW mt_144 := t_ALL (t_c7 (List.mem_of_getElem? (i := 135) rfl)) rfl
theorem mo_144 : mtOK mt_144 := ⟨all_50 1 il_144 (by decide +kernel) (j_1 dec_144_0), by decide +kernel, by decide +kernel, by decide +kernel⟩
set_option maxRecDepth 20000 in
theorem cw_145 : mtCW mt_145 := t_ALL (t_c7 (List.mem_of_getElem? (i := 146) rfl)) rfl
theorem mo_145 : mtOK mt_145 := ⟨all_50 1 il_145 (by decide +kernel) (j_1 dec_145_0), by decide +kernel, by decide +kernel, by decide +kernel⟩
set_option maxRecDepth 20000 in
theorem cw_146 : mtCW mt_146 := t_ALL (t_c7 (List.mem_of_getElem? (i := 150) rfl)) rfl
theorem mo_146 : mtOK mt_146 := ⟨all_50 1 il_146 (by decide +kernel) (j_1 dec_146_0), by decide +kernel, by decide +kernel, by decide +kernel⟩
set_option maxRecDepth 20000 in
theorem cw_147 : mtCW mt_147 := t_ALL (t_c7 (List.mem_of_getElem? (i := 154) rfl)) rfl
theorem mo_147 : mtOK mt_147 := ⟨all_50 2 il_147 (by decide +kernel) (j_2 (j_1 dec_147_0) dec_147_50), by decide +kernel, by decide +kernel, by decide +kernel⟩
set_option maxRecDepth 20000 in
theorem cw_148 : mtCW mt_148 := t_ALL (t_c7 (List.mem_of_getElem? (i := 162) rfl)) rfl
theorem mo_148 : mtOK mt_148 := ⟨all_50 1 il_148 (by decide +kernel) (j_1 dec_148_0), by decide +kernel, by decide +kernel, by decide +kernel⟩
set_option maxRecDepth 20000 in
theorem cw_149 : mtCW mt_149 := t_ALL (t_c7 (List.mem_of_getElem? (i := 158) rfl)) rfl
theorem mo_149 : mtOK mt_149 := ⟨all_50 1 il_149 (by decide +kernel) (j_1 dec_149_0), by decide +kernel, by decide +kernel, by decide +kernel⟩
set_option maxRecDepth 20000 in
theorem cw_150 : mtCW mt_150 := t_ALL (t_c7 (List.mem_of_getElem? (i := 166) rfl)) rfl
theorem mo_150 : mtOK mt_150 := ⟨all_50 1 il_150 (by decide +kernel) (j_1 dec_150_0), by decide +kernel, by decide +kernel, by decide +kernel⟩
set_option maxRecDepth 20000 in
theorem cw_151 : mtCW mt_151 := t_ALL (t_c7 (List.mem_of_getElem? (i := 128) rfl)) rfl
theorem mo_151 : mtOK mt_151 := ⟨all_50 4 il_151 (by decide +kernel) (j_4 (j_3 (j_2 (j_1 dec_151_0) dec_151_50) dec_151_100) dec_151_150), by decide +kernel, by decide +kernel, by decide +kernel⟩
set_option maxRecDepth 20000 in
theorem cw_152 : mtCW mt_152 := t_ALL (t_c7 (List.mem_of_getElem? (i := 174) rfl)) rfl
theorem mo_152 : mtOK mt_152 := ⟨all_50 2 il_152 (by decide +kernel) (j_2 (j_1 dec_152_0) dec_152_50), by decide +kernel, by decide +kernel, by decide +kernel⟩
set_option maxRecDepth 20000 in
theorem cw_153 : mtCW mt_153 := t_ALL (t_c7 (List.mem_of_getElem? (i := 178) rfl)) rfl
theorem mo_153 : mtOK mt_153 := ⟨all_50 2 il_153 (by decide +kernel) (j_2 (j_1 dec_153_0) dec_153_50), by decide +kernel, by decide +kernel, by decide +kernel⟩
set_option maxRecDepth 20000 in
theorem cw_154 : mtCW mt_154 := t_ALL (t_c7 (List.mem_of_getElem? (i := 182) rfl)) rfl
theorem mo_154 : mtOK mt_154 := ⟨all_50 3 il_154 (by decide +kernel) (j_3 (j_2 (j_1 dec_154_0) dec_154_50) dec_154_100), by decide +kernel, by decide +kernel, by decide +kernel⟩
set_option maxRecDepth 20000 in
theorem cw_155 : mtCW mt_155 := t_ALL (t_c7 (List.mem_of_getElem? (i := 190) rfl)) rfl
theorem mo_155 : mtOK mt_155 := ⟨all_50 2 il_155 (by decide +kernel) (j_2 (j_1 dec_155_0) dec_155_50), by decide +kernel, by decide +kernel, by decide +kernel⟩
set_option maxRecDepth 20000 in
theorem cw_156 : mtCW mt_156 := t_ALL (t_c7 (List.mem_of_getElem? (i := 194) rfl)) rfl
theorem mo_156 : mtOK mt_156 := ⟨all_50 2 il_156 (by decide +kernel) (j_2 (j_1 dec_156_0) dec_156_50), by decide +kernel, by decide +kernel, by decide +kernel⟩
set_option maxRecDepth 20000 in
theorem cw_157 : mtCW mt_157 := t_ALL (t_c7 (List.mem_of_getElem? (i := 186) rfl)) rfl
theorem mo_157 : mtOK mt_157 := ⟨all_50 2 il_157 (by decide +kernel) (j_2 (j_1 dec_157_0) dec_157_50), by decide +kernel, by decide +kernel, by decide +kernel⟩
set_option maxRecDepth 20000 in
theorem cw_158 : mtCW mt_158 := t_ALL (t_c7 (List.mem_of_getElem? (i := 206) rfl)) rfl
theorem mo_158 : mtOK mt_158 := ⟨all_50 1 il_158 (by decide +kernel) (j_1 dec_158_0), by decide +kernel, by decide +kernel, by decide +kernel⟩
set_option maxRecDepth 20000 in
theorem cw_159 : mtCW mt_159 := t_ALL (t_c7 (List.mem_of_getElem? (i := 209) rfl)) rfl
theorem mo_159 : mtOK mt_159 := ⟨all_50 1 il_159 (by decide +kernel) (j_1 dec_159_0), by decide +kernel, by decide +kernel, by decide +kernel⟩
set_option maxRecDepth 20000 in
theorem cw_160 : mtCW mt_160 := t_ALL (t_c7 (List.mem_of_getElem? (i := 202) rfl)) rfl
theorem mo_160 : mtOK mt_160 := ⟨all_50 4 il_160 (by decide +kernel) (j_4 (j_3 (j_2 (j_1 dec_160_0) dec_160_50) dec_160_100) dec_160_150), by decide +kernel, by decide +kernel, by decide +kernel⟩
set_option maxRecDepth 20000 in
theorem cw_161 : mtCW mt_161 := t_ALL (t_c7 (List.mem_of_getElem? (i := 198) rfl)) rfl
theorem mo_161 : mtOK mt_161 := ⟨all_50 2 il_161 (by decide +kernel) (j_2 (j_1 dec_161_0) dec_161_50), by decide +kernel, by decide +kernel, by decide +kernel⟩
set_option maxRecDepth 20000 in
theorem cw_162 : mtCW mt_162 := t_ALL (t_c7 (List.mem_of_getElem? (i := 170) rfl)) rfl
theorem mo_162 : mtOK mt_162 := ⟨all_50 4 il_162 (by decide +kernel) (j_4 (j_3 (j_2 (j_1 dec_162_0) dec_162_50) dec_162_100) dec_162_150), by decide +kernel, by decide +kernel, by decide +kernel⟩
set_option maxRecDepth 20000 in
theorem cw_163 : mtCW mt_163 := t_ALL (t_c7 (List.mem_of_getElem? (i := 124) rfl)) rfl
theorem mo_163 : mtOK mt_163 := ⟨all_50 2 il_163 (by decide +kernel) (j_2 (j_1 dec_163_0) dec_163_50), by decide +kernel, by decide +kernel, by decide +kernel⟩
set_option maxRecDepth 20000 in
theorem cw_164 : mtCW mt_164 := t_ALL (t_c7 (List.mem_of_getElem? (i := 112) rfl)) rfl
theorem mo_164 : mtOK mt_164 := ⟨all_50 2 il_164 (by decide +kernel) (j_2 (j_1 dec_164_0) dec_164_50), by decide +kernel, by decide +kernel, by decide +kernel⟩
set_option maxRecDepth 20000 in
theorem cw_165 : mtCW mt_165 := t_ALL (t_c7 (List.mem_of_getElem? (i := 104) rfl)) rfl
theorem mo_165 : mtOK mt_165 := ⟨all_50 1 il_165 (by decide +kernel) (j_1 dec_165_0), by decide +kernel, by decide +kernel, by decide +kernel⟩
set_option maxRecDepth 20000 in
theorem cw_166 : mtCW mt_166 := t_ALL (t_c5 (List.mem_of_getElem? (i := 73) rfl)) rfl
theorem mo_166 : mtOK mt_166 := ⟨all_50 1 il_166 (by decide +kernel) (j_1 dec_166_0), by decide +kernel, by decide +kernel, by decide +kernel⟩
set_option maxRecDepth 20000 in
theorem cw_167 : mtCW mt_167 := t_ALL (t_c7 (List.mem_of_getElem? (i := 213) rfl)) rfl
theorem mo_167 : mtOK mt_167 := ⟨all_50 1 il_167 (by decide +kernel) (j_1 dec_167_0), by decide +kernel, by decide +kernel, by decide +kernel⟩
set_option maxRecDepth 20000 in
theorem cw_168 : mtCW mt_168 := t_ALL (t_c5 (List.mem_of_getElem? (i := 82) rfl)) rfl
theorem mo_168 : mtOK mt_168 := ⟨all_50 1 il_168 (by decide +kernel) (j_1 dec_168_0), by decide +kernel, by decide +kernel, by decide +kernel⟩
set_option maxRecDepth 20000 in
theorem cw_169 : mtCW mt_169 := t_ALL (t_c5 (List.mem_of_getElem? (i := 77) rfl)) rfl
theorem mo_169 : mtOK mt_169 := ⟨all_50 1 il_169 (by decide +kernel) (j_1 dec_169_0), by decide +kernel, by decide +kernel, by decide +kernel⟩
set_option maxRecDepth 20000 in
theorem cw_170 : mtCW mt_170 := t_ALL (t_c7 (List.mem_of_getElem? (i := 217) rfl)) rfl
theorem mo_170 : mtOK mt_170 := ⟨all_50 2 il_170 (by decide +kernel) (j_2 (j_1 dec_170_0) dec_170_50), by decide +kernel, by decide +kernel, by decide +kernel⟩
set_option maxRecDepth 20000 in
theorem cw_171 : mtCW mt_171 := t_ALL (t_c5 (List.mem_of_getElem? (i := 90) rfl)) rfl
theorem mo_171 : mtOK mt_171 := ⟨all_50 1 il_171 (by decide +kernel) (j_1 dec_171_0), by decide +kernel, by decide +kernel, by decide +kernel⟩
set_option maxRecDepth 20000 in
theorem cw_172 : mtCW mt_172 := t_ALL (t_c5 (List.mem_of_getElem? (i := 86) rfl)) rfl
theorem mo_172 : mtOK mt_172 := ⟨all_50 1 il_172 (by decide +kernel) (j_1 dec_172_0), by decide +kernel, by decide +kernel, by decide +kernel⟩
set_option maxRecDepth 20000 in
theorem cw_173 : mtCW mt_173 := t_ALL (t_c7 (List.mem_of_getElem? (i := 222) rfl)) rfl
theorem mo_173 : mtOK mt_173 := ⟨all_50 1 il_173 (by decide +kernel) (j_1 dec_173_0), by decide +kernel, by decide +kernel, by decide +kernel⟩
set_option maxRecDepth 20000 in
theorem cw_174 : mtCW mt_174 := t_ALL (t_c5 (List.mem_of_getElem? (i := 105) rfl)) rfl
theorem mo_174 : mtOK mt_174 := ⟨all_50 1 il_174 (by decide +kernel) (j_1 dec_174_0), by decide +kernel, by decide +kernel, by decide +kernel⟩
set_option maxRecDepth 20000 in
theorem cw_175 : mtCW mt_175 := t_ALL (t_c5 (List.mem_of_getElem? (i := 100) rfl)) rfl
theorem mo_175 : mtOK mt_175 := ⟨all_50 1 il_175 (by decide +kernel) (j_1 dec_175_0), by decide +kernel, by decide +kernel, by decide +kernel⟩
set_option maxRecDepth 20000 in
theorem cw_176 : mtCW mt_176 := t_ALL (t_c5 (List.mem_of_getElem? (i := 94) rfl)) rfl
theorem mo_176 : mtOK mt_176 := ⟨all_50 1 il_176 (by decide +kernel) (j_1 dec_176_0), by decide +kernel, by decide +kernel, by decide +kernel⟩
set_option maxRecDepth 20000 in
theorem cw_177 : mtCW mt_177 := t_ALL (t_c7 (List.mem_of_getElem? (i := 230) rfl)) rfl
theorem mo_177 : mtOK mt_177 := ⟨all_50 1 il_177 (by decide +kernel) (j_1 dec_177_0), by decide +kernel, by decide +kernel, by decide +kernel⟩
set_option maxRecDepth 20000 in
theorem cw_178 : mtCW mt_178 := t_ALL (t_c7 (List.mem_of_getElem? (i := 226) rfl)) rfl
theorem mo_178 : mtOK mt_178 := ⟨all_50 2 il_178 (by decide +kernel) (j_2 (j_1 dec_178_0) dec_178_50), by decide +kernel, by decide +kernel, by decide +kernel⟩
set_option maxRecDepth 20000 in
theorem cw_179 : mtCW mt_179 := t_ALL (t_c5 (List.mem_of_getElem? (i := 114) rfl)) rfl
theorem mo_179 : mtOK mt_179 := ⟨all_50 1 il_179 (by decide +kernel) (j_1 dec_179_0), by decide +kernel, by decide +kernel, by decide +kernel⟩
set_option maxRecDepth 20000 in
theorem cw_180 : mtCW mt_180 := t_ALL (t_c5 (List.mem_of_getElem? (i := 119) rfl)) rfl
theorem mo_180 : mtOK mt_180 := ⟨all_50 1 il_180 (by decide +kernel) (j_1 dec_180_0), by decide +kernel, by decide +kernel, by decide +kernel⟩
set_option maxRecDepth 20000 in
theorem cw_181 : mtCW mt_181 := t_ALL (t_c5 (List.mem_of_getElem? (i := 110) rfl)) rfl
theorem mo_181 : mtOK mt_181 := ⟨all_50 1 il_181 (by decide +kernel) (j_1 dec_181_0), by decide +kernel, by decide +kernel, by decide +kernel⟩
set_option maxRecDepth 20000 in
theorem cw_182 : mtCW mt_182 := t_ALL (t_c7 (List.mem_of_getElem? (i := 238) rfl)) rfl
theorem mo_182 : mtOK mt_182 := ⟨all_50 1 il_182 (by decide +kernel) (j_1 dec_182_0), by decide +kernel, by decide +kernel, by decide +kernel⟩
set_option maxRecDepth 20000 in
theorem cw_183 : mtCW mt_183 := t_ALL (t_c7 (List.mem_of_getElem? (i := 234) rfl)) rfl
theorem mo_183 : mtOK mt_183 := ⟨all_50 2 il_183 (by decide +kernel) (j_2 (j_1 dec_183_0) dec_183_50), by decide +kernel, by decide +kernel, by decide +kernel⟩
set_option maxRecDepth 20000 in
theorem cw_184 : mtCW mt_184 := t_ALL (t_c5 (List.mem_of_getElem? (i := 124) rfl)) rfl
theorem mo_184 : mtOK mt_184 := ⟨all_50 1 il_184 (by decide +kernel) (j_1 dec_184_0), by decide +kernel, by decide +kernel, by decide +kernel⟩
set_option maxRecDepth 20000 in
theorem cw_185 : mtCW mt_185 := t_ALL (t_c8 (List.mem_of_getElem? (i := 2) rfl)) rfl
theorem mo_185 : mtOK mt_185 := ⟨all_50 2 il_185 (by decide +kernel) (j_2 (j_1 dec_185_0) dec_185_50), by decide +kernel, by decide +kernel, by decide +kernel⟩
set_option maxRecDepth 20000 in
theorem cw_186 : mtCW mt_186 := t_ALL (t_c5 (List.mem_of_getElem? (i := 133) rfl)) rfl
theorem mo_186 : mtOK mt_186 := ⟨all_50 1 il_186 (by decide +kernel) (j_1 dec_186_0), by decide +kernel, by decide +kernel, by decide +kernel⟩
set_option maxRecDepth 20000 in
theorem cw_187 : mtCW mt_187 := t_ALL (t_c5 (List.mem_of_getElem? (i := 128) rfl)) rfl
theorem mo_187 : mtOK mt_187 := ⟨all_50 1 il_187 (by decide +kernel) (j_1 dec_187_0), by decide +kernel, by decide +kernel, by decide +kernel⟩
set_option maxRecDepth 20000 in
theorem cw_188 : mtCW mt_188 := t_ALL (t_c8 (List.mem_of_getElem? (i := 10) rfl)) rfl
theorem mo_188 : mtOK mt_188 := ⟨all_50 1 il_188 (by decide +kernel) (j_1 dec_188_0), by decide +kernel, by decide +kernel, by decide +kernel⟩
set_option maxRecDepth 20000 in
theorem cw_189 : mtCW mt_189 := t_ALL (t_c8 (List.mem_of_getElem? (i := 6) rfl)) rfl
theorem mo_189 : mtOK mt_189 := ⟨all_50 2 il_189 (by decide +kernel) (j_2 (j_1 dec_189_0) dec_189_50), by decide +kernel, by decide +kernel, by decide +kernel⟩
set_option maxRecDepth 20000 in
theorem cw_190 : mtCW mt_190 := t_ALL (t_c5 (List.mem_of_getElem? (i := 137) rfl)) rfl
theorem mo_190 : mtOK mt_190 := ⟨all_50 1 il_190 (by decide +kernel) (j_1 dec_190_0), by decide +kernel, by decide +kernel, by decide +kernel⟩
set_option maxRecDepth 20000 in
theorem cw_191 : mtCW mt_191 := t_ALL (t_c8 (List.mem_of_getElem? (i := 14) rfl)) rfl
theorem mo_191 : mtOK mt_191 := ⟨all_50 2 il_191 (by decide +kernel) (j_2 (j_1 dec_191_0) dec_191_50), by decide +kernel, by decide +kernel, by decide +kernel⟩
set_option maxRecDepth 20000 in
theorem cw_192 : mtCW mt_192 := t_ALL (t_c5 (List.mem_of_getElem? (i := 145) rfl)) rfl
theorem mo_192 : mtOK mt_192 := ⟨all_50 1 il_192 (by decide +kernel) (j_1 dec_192_0), by decide +kernel, by decide +kernel, by decide +kernel⟩
set_option maxRecDepth 20000 in
theorem cw_193 : mtCW mt_193 := t_ALL (t_c5 (List.mem_of_getElem? (i := 142) rfl)) rfl
theorem mo_193 : mtOK mt_193 := ⟨all_50 1 il_193 (by decide +kernel) (j_1 dec_193_0), by decide +kernel, by decide +kernel, by decide +kernel⟩
set_option maxRecDepth 20000 in
theorem cw_194 : mtCW mt_194 := t_ALL (t_c8 (List.mem_of_getElem? (i := 22) rfl)) rfl
theorem mo_194 : mtOK mt_194 := ⟨all_50 1 il_194 (by decide +kernel) (j_1 dec_194_0), by decide +kernel, by decide +kernel, by decide +kernel⟩
set_option maxRecDepth 20000 in
theorem cw_195 : mtCW mt_195 := t_ALL (t_c8 (List.mem_of_getElem? (i := 18) rfl)) rfl
theorem mo_195 : mtOK mt_195 := ⟨all_50 1 il_195 (by decide +kernel) (j_1 dec_195_0), by decide +kernel, by decide +kernel, by decide +kernel⟩
set_option maxRecDepth 20000 in
theorem cw_196 : mtCW mt_196 := t_ALL (t_c5 (List.mem_of_getElem? (i := 152) rfl)) rfl
theorem mo_196 : mtOK mt_196 := ⟨all_50 1 il_196 (by decide +kernel) (j_1 dec_196_0), by decide +kernel, by decide +kernel, by decide +kernel⟩
set_option maxRecDepth 20000 in
theorem cw_197 : mtCW mt_197 := t_ALL (t_c8 (List.mem_of_getElem? (i := 26) rfl)) rfl
theorem mo_197 : mtOK mt_197 := ⟨all_50 1 il_197 (by decide +kernel) (j_1 dec_197_0), by decide +kernel, by decide +kernel, by decide +kernel⟩
set_option maxRecDepth 20000 in
theorem cw_198 : mtCW mt_198 := t_ALL (t_c5 (List.mem_of_getElem? (i := 160) rfl)) rfl
theorem mo_198 : mtOK mt_198 := ⟨all_50 1 il_198 (by decide +kernel) (j_1 dec_198_0), by decide +kernel, by decide +kernel, by decide +kernel⟩
set_option maxRecDepth 20000 in
theorem cw_199 : mtCW mt_199 := t_ALL (t_c5 (List.mem_of_getElem? (i := 156) rfl)) rfl
theorem mo_199 : mtOK mt_199 := ⟨all_50 1 il_199 (by decide +kernel) (j_1 dec_199_0), by decide +kernel, by decide +kernel, by decide +kernel⟩
set_option maxRecDepth 20000 in
theorem cw_200 : mtCW mt_200 := t_ALL (t_c7 (List.mem_of_getElem? (i := 98) rfl)) rfl
theorem mo_200 : mtOK mt_200 := ⟨all_50 2 il_200 (by decide +kernel) (j_2 (j_1 dec_200_0) dec_200_50), by decide +kernel, by decide +kernel, by decide +kernel⟩
set_option maxRecDepth 20000 in
theorem cw_201 : mtCW mt_201 := t_ALL (t_c5 (List.mem_of_getElem? (i := 175) rfl)) rfl
theorem mo_201 : mtOK mt_201 := ⟨all_50 1 il_201 (by decide +kernel) (j_1 dec_201_0), by decide +kernel, by decide +kernel, by decide +kernel⟩
set_option maxRecDepth 20000 in
theorem cw_202 : mtCW mt_202 := t_ALL (t_c5 (List.mem_of_getElem? (i := 169) rfl)) rfl
theorem mo_202 : mtOK mt_202 := ⟨all_50 1 il_202 (by decide +kernel) (j_1 dec_202_0), by decide +kernel, by decide +kernel, by decide +kernel⟩
set_option maxRecDepth 20000 in
theorem cw_203 : mtCW mt_203 := t_ALL (t_c5 (List.mem_of_getElem? (i := 165) rfl)) rfl
theorem mo_203 : mtOK mt_203 := ⟨all_50 1 il_203 (by decide +kernel) (j_1 dec_203_0), by decide +kernel, by decide +kernel, by decide +kernel⟩
set_option maxRecDepth 20000 in
theorem cw_204 : mtCW mt_204 := t_ALL (t_c8 (List.mem_of_getElem? (i := 34) rfl)) rfl
theorem mo_204 : mtOK mt_204 := ⟨all_50 3 il_204 (by decide +kernel) (j_3 (j_2 (j_1 dec_204_0) dec_204_50) dec_204_100), by decide +kernel, by decide +kernel, by decide +kernel⟩
set_option maxRecDepth 20000 in
theorem cw_205 : mtCW mt_205 := t_ALL (t_c8 (List.mem_of_getElem? (i := 30) rfl)) rfl
theorem mo_205 : mtOK mt_205 := ⟨all_50 1 il_205 (by decide +kernel) (j_1 dec_205_0), by decide +kernel, by decide +kernel, by decide +kernel⟩
set_option maxRecDepth 20000 in
theorem cw_206 : mtCW mt_206 := t_ALL (t_c5 (List.mem_of_getElem? (i := 189) rfl)) rfl
theorem mo_206 : mtOK mt_206 := ⟨all_50 2 il_206 (by decide +kernel) (j_2 (j_1 dec_206_0) dec_206_50), by decide +kernel, by decide +kernel, by decide +kernel⟩
set_option maxRecDepth 20000 in
theorem cw_207 : mtCW mt_207 := t_ALL (t_c5 (List.mem_of_getElem? (i := 202) rfl)) rfl
theorem mo_207 : mtOK mt_207 := ⟨all_50 1 il_207 (by decide +kernel) (j_1 dec_207_0), by decide +kernel, by decide +kernel, by decide +kernel⟩
set_option maxRecDepth 20000 in
theorem cw_208 : mtCW mt_208 := t_ALL (t_c5 (List.mem_of_getElem? (i := 199) rfl)) rfl
theorem mo_208 : mtOK mt_208 := ⟨all_50 1 il_208 (by decide +kernel) (j_1 dec_208_0), by decide +kernel, by decide +kernel, by decide +kernel⟩
set_option maxRecDepth 20000 in
theorem cw_209 : mtCW mt_209 := t_ALL (t_c5 (List.mem_of_getElem? (i := 185) rfl)) rfl
theorem mo_209 : mtOK mt_209 := ⟨all_50 2 il_209 (by decide +kernel) (j_2 (j_1 dec_209_0) dec_209_50), by decide +kernel, by decide +kernel, by decide +kernel⟩
set_option maxRecDepth 20000 in
theorem cw_210 : mtCW mt_210 := t_ALL (t_c5 (List.mem_of_getElem? (i := 181) rfl)) rfl
theorem mo_210 : mtOK mt_210 := ⟨all_50 1 il_210 (by decide +kernel) (j_1 dec_210_0), by decide +kernel, by decide +kernel, by decide +kernel⟩
set_option maxRecDepth 20000 in
theorem cw_211 : mtCW mt_211 := t_ALL (t_c8 (List.mem_of_getElem? (i := 42) rfl)) rfl
theorem mo_211 : mtOK mt_211 := ⟨all_50 3 il_211 (by decide +kernel) (j_3 (j_2 (j_1 dec_211_0) dec_211_50) dec_211_100), by decide +kernel, by decide +kernel, by decide +kernel⟩
set_option maxRecDepth 20000 in
theorem cw_212 : mtCW mt_212 := t_ALL (t_c8 (List.mem_of_getElem? (i := 38) rfl)) rfl
theorem mo_212 : mtOK mt_212 := ⟨all_50 2 il_212 (by decide +kernel) (j_2 (j_1 dec_212_0) dec_212_50), by decide +kernel, by decide +kernel, by decide +kernel⟩
set_option maxRecDepth 20000 in
theorem cw_213 : mtCW mt_213 := t_ALL (t_c5 (List.mem_of_getElem? (i := 206) rfl)) rfl
theorem mo_213 : mtOK mt_213 := ⟨all_50 1 il_213 (by decide +kernel) (j_1 dec_213_0), by decide +kernel, by decide +kernel, by decide +kernel⟩
set_option maxRecDepth 20000 in
theorem cw_214 : mtCW mt_214 := t_ALL (t_c8 (List.mem_of_getElem? (i := 46) rfl)) rfl
theorem mo_214 : mtOK mt_214 := ⟨all_50 1 il_214 (by decide +kernel) (j_1 dec_214_0), by decide +kernel, by decide +kernel, by decide +kernel⟩
set_option maxRecDepth 20000 in
theorem cw_215 : mtCW mt_215 := t_ALL (t_c5 (List.mem_of_getElem? (i := 223) rfl)) rfl
theorem mo_215 : mtOK mt_215 := ⟨all_50 1 il_215 (by decide +kernel) (j_1 dec_215_0), by decide +kernel, by decide +kernel, by decide +kernel⟩
set_option maxRecDepth 20000 in
theorem cw_216 : mtCW mt_216 := t_ALL (t_c5 (List.mem_of_getElem? (i := 220) rfl)) rfl
theorem mo_216 : mtOK mt_216 := ⟨all_50 1 il_216 (by decide +kernel) (j_1 dec_216_0), by decide +kernel, by decide +kernel, by decide +kernel⟩
set_option maxRecDepth 20000 in
theorem cw_217 : mtCW mt_217 := t_ALL (t_c5 (List.mem_of_getElem? (i := 238) rfl)) rfl
theorem mo_217 : mtOK mt_217 := ⟨all_50 1 il_217 (by decide +kernel) (j_1 dec_217_0), by decide +kernel, by decide +kernel, by decide +kernel⟩
set_option maxRecDepth 20000 in
theorem cw_218 : mtCW mt_218 := t_ALL (t_c6 (List.mem_of_getElem? (i := 1) rfl)) rfl
theorem mo_218 : mtOK mt_218 := ⟨all_50 2 il_218 (by decide +kernel) (j_2 (j_1 dec_218_0) dec_218_50), by decide +kernel, by decide +kernel, by decide +kernel⟩
set_option maxRecDepth 20000 in
theorem cw_219 : mtCW mt_219 := t_ALL (t_c5 (List.mem_of_getElem? (i := 235) rfl)) rfl
theorem mo_219 : mtOK mt_219 := ⟨all_50 1 il_219 (by decide +kernel) (j_1 dec_219_0), by decide +kernel, by decide +kernel, by decide +kernel⟩
set_option maxRecDepth 20000 in
theorem cw_220 : mtCW mt_220 := t_ALL (t_c5 (List.mem_of_getElem? (i := 232) rfl)) rfl
theorem mo_220 : mtOK mt_220 := ⟨all_50 1 il_220 (by decide +kernel) (j_1 dec_220_0), by decide +kernel, by decide +kernel, by decide +kernel⟩
set_option maxRecDepth 20000 in
theorem cw_221 : mtCW mt_221 := t_ALL (t_c5 (List.mem_of_getElem? (i := 214) rfl)) rfl
theorem mo_221 : mtOK mt_221 := ⟨all_50 2 il_221 (by decide +kernel) (j_2 (j_1 dec_221_0) dec_221_50), by decide +kernel, by decide +kernel, by decide +kernel⟩
set_option maxRecDepth 20000 in
theorem cw_222 : mtCW mt_222 := t_ALL (t_c5 (List.mem_of_getElem? (i := 210) rfl)) rfl
theorem mo_222 : mtOK mt_222 := ⟨all_50 2 il_222 (by decide +kernel) (j_2 (j_1 dec_222_0) dec_222_50), by decide +kernel, by decide +kernel, by decide +kernel⟩
set_option maxRecDepth 20000 in
theorem cw_223 : mtCW mt_223 := t_ALL (t_c8 (List.mem_of_getElem? (i := 54) rfl)) rfl
theorem mo_223 : mtOK mt_223 := ⟨all_50 1 il_223 (by decide +kernel) (j_1 dec_223_0), by decide +kernel, by decide +kernel, by decide +kernel⟩
set_option maxRecDepth 20000 in
theorem cw_224 : mtCW mt_224 := t_ALL (t_c8 (List.mem_of_getElem? (i := 58) rfl)) rfl
theorem mo_224 : mtOK mt_224 := ⟨all_50 1 il_224 (by decide +kernel) (j_1 dec_224_0), by decide +kernel, by decide +kernel, by decide +kernel⟩
set_option maxRecDepth 20000 in
theorem cw_225 : mtCW mt_225 := t_ALL (t_c8 (List.mem_of_getElem? (i := 50) rfl)) rfl
theorem mo_225 : mtOK mt_225 := ⟨all_50 3 il_225 (by decide +kernel) (j_3 (j_2 (j_1 dec_225_0) dec_225_50) dec_225_100), by decide +kernel, by decide +kernel, by decide +kernel⟩
set_option maxRecDepth 20000 in
theorem cw_226 : mtCW mt_226 := t_ALL (t_c6 (List.mem_of_getElem? (i := 18) rfl)) rfl
theorem mo_226 : mtOK mt_226 := ⟨all_50 1 il_226 (by decide +kernel) (j_1 dec_226_0), by decide +kernel, by decide +kernel, by decide +kernel⟩
set_option maxRecDepth 20000 in
theorem cw_227 : mtCW mt_227 := t_ALL (t_c8 (List.mem_of_getElem? (i := 62) rfl)) rfl
theorem mo_227 : mtOK mt_227 := ⟨all_50 1 il_227 (by decide +kernel) (j_1 dec_227_0), by decide +kernel, by decide +kernel, by decide +kernel⟩
set_option maxRecDepth 20000 in
theorem cw_228 : mtCW mt_228 := t_ALL (t_c6 (List.mem_of_getElem? (i := 23) rfl)) rfl
theorem mo_228 : mtOK mt_228 := ⟨all_50 1 il_228 (by decide +kernel) (j_1 dec_228_0), by decide +kernel, by decide +kernel, by decide +kernel⟩
set_option maxRecDepth 20000 in
theorem cw_229 : mtCW mt_229 := t_ALL (t_c7 (List.mem_of_getElem? (i := 94) rfl)) rfl
theorem mo_229 : mtOK mt_229 := ⟨all_50 1 il_229 (by decide +kernel) (j_1 dec_229_0), by decide +kernel, by decide +kernel, by decide +kernel⟩
theorem mo_230 : mtOK mt_230 := ⟨all_50 11 il_230 (by decide +kernel) (j_11 (j_10 (j_9 (j_8 (j_7 (j_6 (j_5 (j_4 (j_3 (j_2 (j_1 dec_230_0) dec_230_50) dec_230_100) dec_230_150) dec_230_200) dec_230_250) dec_230_300) dec_230_350) dec_230_400) dec_230_450) dec_230_500), by decide +kernel, by decide +kernel, by decide +kernel⟩
def mtab_0 : List MT := [mt_0, mt_1, mt_2, mt_3, mt_4, mt_5, mt_6, mt_7, mt_8, mt_9, mt_10, mt_11, mt_12, mt_13, mt_14, mt_15]
theorem mtab_0_ok : ∀ q ∈ mtab_0, mtOK q ∧ mtCW q := List.forall_mem_cons.mpr ⟨⟨mo_0, cw_0⟩, List.forall_mem_cons.mpr ⟨⟨mo_1, cw_1⟩, List.forall_mem_cons.mpr ⟨⟨mo_2, cw_2⟩, List.forall_mem_cons.mpr ⟨⟨mo_3, cw_3⟩, List.forall_mem_cons.mpr ⟨⟨mo_4, cw_4⟩, List.forall_mem_cons.mpr ⟨⟨mo_5, cw_5⟩, List.forall_mem_cons.mpr ⟨⟨mo_6, cw_6⟩, List.forall_mem_cons.mpr ⟨⟨mo_7, cw_7⟩, List.forall_mem_cons.mpr ⟨⟨mo_8, cw_8⟩, List.forall_mem_cons.mpr ⟨⟨mo_9, cw_9⟩, List.forall_mem_cons.mpr ⟨⟨mo_10, cw_10⟩, List.forall_mem_cons.mpr ⟨⟨mo_11, cw_11⟩, List.forall_mem_cons.mpr ⟨⟨mo_12, cw_12⟩, List.forall_mem_cons.mpr ⟨⟨mo_13, cw_13⟩, List.forall_mem_cons.mpr ⟨⟨mo_14, cw_14⟩, List.forall_mem_cons.mpr ⟨⟨mo_15, cw_15⟩, fun _ h => absurd h List.not_mem_nil⟩⟩⟩⟩⟩⟩⟩⟩⟩⟩⟩⟩⟩⟩⟩⟩
def mtab_1 : List MT := [mt_16, mt_17, mt_18, mt_19, mt_20, mt_21, mt_22, mt_23, mt_24, mt_25, mt_26, mt_27, mt_28, mt_29, mt_30, mt_31]
theorem mtab_1_ok : ∀ q ∈ mtab_1, mtOK q ∧ mtCW q := List.forall_mem_cons.mpr ⟨⟨mo_16, cw_16⟩, List.forall_mem_cons.mpr ⟨⟨mo_17, cw_17⟩, List.forall_mem_cons.mpr ⟨⟨mo_18, cw_18⟩, List.forall_mem_cons.mpr ⟨⟨mo_19, cw_19⟩, List.forall_mem_cons.mpr ⟨⟨mo_20, cw_20⟩, List.forall_mem_cons.mpr ⟨⟨mo_21, cw_21⟩, List.forall_mem_cons.mpr ⟨⟨mo_22, cw_22⟩, List.forall_mem_cons.mpr ⟨⟨mo_23, cw_23⟩, List.forall_mem_cons.mpr ⟨⟨mo_24, cw_24⟩, List.forall_mem_cons.mpr ⟨⟨mo_25, cw_25⟩, List.forall_mem_cons.mpr ⟨⟨mo_26, cw_26⟩, List.forall_mem_cons.mpr ⟨⟨mo_27, cw_27⟩, List.forall_mem_cons.mpr ⟨⟨mo_28, cw_28⟩, List.forall_mem_cons.mpr ⟨⟨mo_29, cw_29⟩, List.forall_mem_cons.mpr ⟨⟨mo_30, cw_30⟩, List.forall_mem_cons.mpr ⟨⟨mo_31, cw_31⟩, fun _ h => absurd h List.not_mem_nil⟩⟩⟩⟩⟩⟩⟩⟩⟩⟩⟩⟩⟩⟩⟩⟩
def mtab_2 : List MT := [mt_32, mt_33, mt_34, mt_35, mt_36, mt_37, mt_38, mt_39, mt_40, mt_41, mt_42, mt_43, mt_44, mt_45, mt_46, mt_47]
theorem mtab_2_ok : ∀ q ∈ mtab_2, mtOK q ∧ mtCW q := List.forall_mem_cons.mpr ⟨⟨mo_32, cw_32⟩, List.forall_mem_cons.mpr ⟨⟨mo_33, cw_33⟩, List.forall_mem_cons.mpr ⟨⟨mo_34, cw_34⟩, List.forall_mem_cons.mpr ⟨⟨mo_35, cw_35⟩, List.forall_mem_cons.mpr ⟨⟨mo_36, cw_36⟩, List.forall_mem_cons.mpr ⟨⟨mo_37, cw_37⟩, List.forall_mem_cons.mpr ⟨⟨mo_38, cw_38⟩, List.forall_mem_cons.mpr ⟨⟨mo_39, cw_39⟩, List.forall_mem_cons.mpr ⟨⟨mo_40, cw_40⟩, List.forall_mem_cons.mpr ⟨⟨mo_41, cw_41⟩, List.forall_mem_cons.mpr ⟨⟨mo_42, cw_42⟩, List.forall_mem_cons.mpr ⟨⟨mo_43, cw_43⟩, List.forall_mem_cons.mpr ⟨⟨mo_44, cw_44⟩, List.forall_mem_cons.mpr ⟨⟨mo_45, cw_45⟩, List.forall_mem_cons.mpr ⟨⟨mo_46, cw_46⟩, List.forall_mem_cons.mpr ⟨⟨mo_47, cw_47⟩, fun _ h => absurd h List.not_mem_nil⟩⟩⟩⟩⟩⟩⟩⟩⟩⟩⟩⟩⟩⟩⟩⟩
def mtab_3 : List MT := [mt_48, mt_49, mt_50, mt_51, mt_52, mt_53, mt_54, mt_55, mt_56, mt_57, mt_58, mt_59, mt_60, mt_61, mt_62, mt_63]
theorem mtab_3_ok : ∀ q ∈ mtab_3, mtOK q ∧ mtCW q := List.forall_mem_cons.mpr ⟨⟨mo_48, cw_48⟩, List.forall_mem_cons.mpr ⟨⟨mo_49, cw_49⟩, List.forall_mem_cons.mpr ⟨⟨mo_50, cw_50⟩, List.forall_mem_cons.mpr ⟨⟨mo_51, cw_51⟩, List.forall_mem_cons.mpr ⟨⟨mo_52, cw_52⟩, List.forall_mem_cons.mpr ⟨⟨mo_53, cw_53⟩, List.forall_mem_cons.mpr ⟨⟨mo_54, cw_54⟩, List.forall_mem_cons.mpr ⟨⟨mo_55, cw_55⟩, List.forall_mem_cons.mpr ⟨⟨mo_56, cw_56⟩, List.forall_mem_cons.mpr ⟨⟨mo_57, cw_57⟩, List.forall_mem_cons.mpr ⟨⟨mo_58, cw_58⟩, List.forall_mem_cons.mpr ⟨⟨mo_59, cw_59⟩, List.forall_mem_cons.mpr ⟨⟨mo_60, cw_60⟩, List.forall_mem_cons.mpr ⟨⟨mo_61, cw_61⟩, List.forall_mem_cons.mpr ⟨⟨mo_62, cw_62⟩, List.forall_mem_cons.mpr ⟨⟨mo_63, cw_63⟩, fun _ h => absurd h List.not_mem_nil⟩⟩⟩⟩⟩⟩⟩⟩⟩⟩⟩⟩⟩⟩⟩⟩
def mtab_4 : List MT := [mt_64, mt_65, mt_66, mt_67, mt_68, mt_69, mt_70, mt_71, mt_72, mt_73, mt_74, mt_75, mt_76, mt_77, mt_78, mt_79]
theorem mtab_4_ok : ∀ q ∈ mtab_4, mtOK q ∧ mtCW q := List.forall_mem_cons.mpr ⟨⟨mo_64, cw_64⟩, List.forall_mem_cons.mpr ⟨⟨mo_65, cw_65⟩, List.forall_mem_cons.mpr ⟨⟨mo_66, cw_66⟩, List.forall_mem_cons.mpr ⟨⟨mo_67, cw_67⟩, List.forall_mem_cons.mpr ⟨⟨mo_68, cw_68⟩, List.forall_mem_cons.mpr ⟨⟨mo_69, cw_69⟩, List.forall_mem_cons.mpr ⟨⟨mo_70, cw_70⟩, List.forall_mem_cons.mpr ⟨⟨mo_71, cw_71⟩, List.forall_mem_cons.mpr ⟨⟨mo_72, cw_72⟩, List.forall_mem_cons.mpr ⟨⟨mo_73, cw_73⟩, List.forall_mem_cons.mpr ⟨⟨mo_74, cw_74⟩, List.forall_mem_cons.mpr ⟨⟨mo_75, cw_75⟩, List.forall_mem_cons.mpr ⟨⟨mo_76, cw_76⟩, List.forall_mem_cons.mpr ⟨⟨mo_77, cw_77⟩, List.forall_mem_cons.mpr ⟨⟨mo_78, cw_78⟩, List.forall_mem_cons.mpr ⟨⟨mo_79, cw_79⟩, fun _ h => absurd h List.not_mem_nil⟩⟩⟩⟩⟩⟩⟩⟩⟩⟩⟩⟩⟩⟩⟩⟩
def mtab_5 : List MT := [mt_80, mt_81, mt_82, mt_83, mt_84, mt_85, mt_86, mt_87, mt_88, mt_89, mt_90, mt_91, mt_92, mt_93, mt_94, mt_95]
theorem mtab_5_ok : ∀ q ∈ mtab_5, mtOK q ∧ mtCW q := List.forall_mem_cons.mpr ⟨⟨mo_80, cw_80⟩, List.forall_mem_cons.mpr ⟨⟨mo_81, cw_81⟩, List.forall_mem_cons.mpr ⟨⟨mo_82, cw_82⟩, List.forall_mem_cons.mpr ⟨⟨mo_83, cw_83⟩, List.forall_mem_cons.mpr ⟨⟨mo_84, cw_84⟩, List.forall_mem_cons.mpr ⟨⟨mo_85, cw_85⟩, List.forall_mem_cons.mpr ⟨⟨mo_86, cw_86⟩, List.forall_mem_cons.mpr ⟨⟨mo_87, cw_87⟩, List.forall_mem_cons.mpr ⟨⟨mo_88, cw_88⟩, List.forall_mem_cons.mpr ⟨⟨mo_89, cw_89⟩, List.forall_mem_cons.mpr ⟨⟨mo_90, cw_90⟩, List.forall_mem_cons.mpr ⟨⟨mo_91, cw_91⟩, List.forall_mem_cons.mpr ⟨⟨mo_92, cw_92⟩, List.forall_mem_cons.mpr ⟨⟨mo_93, cw_93⟩, List.forall_mem_cons.mpr ⟨⟨mo_94, cw_94⟩, List.forall_mem_cons.mpr ⟨⟨mo_95, cw_95⟩, fun _ h => absurd h List.not_mem_nil⟩⟩⟩⟩⟩⟩⟩⟩⟩⟩⟩⟩⟩⟩⟩⟩
def mtab_6 : List MT := [mt_96, mt_97, mt_98, mt_99, mt_100, mt_101, mt_102, mt_103, mt_104, mt_105, mt_106, mt_107, mt_108, mt_109, mt_110, mt_111]
theorem mtab_6_ok : ∀ q ∈ mtab_6, mtOK q ∧ mtCW q := List.forall_mem_cons.mpr ⟨⟨mo_96, cw_96⟩, List.forall_mem_cons.mpr ⟨⟨mo_97, cw_97⟩, List.forall_mem_cons.mpr ⟨⟨mo_98, cw_98⟩, List.forall_mem_cons.mpr ⟨⟨mo_99, cw_99⟩, List.forall_mem_cons.mpr ⟨⟨mo_100, cw_100⟩, List.forall_mem_cons.mpr ⟨⟨mo_101, cw_101⟩, List.forall_mem_cons.mpr ⟨⟨mo_102, cw_102⟩, List.forall_mem_cons.mpr ⟨⟨mo_103, cw_103⟩, List.forall_mem_cons.mpr ⟨⟨mo_104, cw_104⟩, List.forall_mem_cons.mpr ⟨⟨mo_105, cw_105⟩, List.forall_mem_cons.mpr ⟨⟨mo_106, cw_106⟩, List.forall_mem_cons.mpr ⟨⟨mo_107, cw_107⟩, List.forall_mem_cons.mpr ⟨⟨mo_108, cw_108⟩, List.forall_mem_cons.mpr ⟨⟨mo_109, cw_109⟩, List.forall_mem_cons.mpr ⟨⟨mo_110, cw_110⟩, List.forall_mem_cons.mpr ⟨⟨mo_111, cw_111⟩, fun _ h => absurd h List.not_mem_nil⟩⟩⟩⟩⟩⟩⟩⟩⟩⟩⟩⟩⟩⟩⟩⟩
def mtab_7 : List MT := [mt_112, mt_113, mt_114, mt_115, mt_116, mt_117, mt_118, mt_119, mt_120, mt_121, mt_122, mt_123, mt_124, mt_125, mt_126, mt_127]
theorem mtab_7_ok : ∀ q ∈ mtab_7, mtOK q ∧ mtCW q := List.forall_mem_cons.mpr ⟨⟨mo_112, cw_112⟩, List.forall_mem_cons.mpr ⟨⟨mo_113, cw_113⟩, List.forall_mem_cons.mpr ⟨⟨mo_114, cw_114⟩, List.forall_mem_cons.mpr ⟨⟨mo_115, cw_115⟩, List.forall_mem_cons.mpr ⟨⟨mo_116, cw_116⟩, List.forall_mem_cons.mpr ⟨⟨mo_117, cw_117⟩, List.forall_mem_cons.mpr ⟨⟨mo_118, cw_118⟩, List.forall_mem_cons.mpr ⟨⟨mo_119, cw_119⟩, List.forall_mem_cons.mpr ⟨⟨mo_120, cw_120⟩, List.forall_mem_cons.mpr ⟨⟨mo_121, cw_121⟩, List.forall_mem_cons.mpr ⟨⟨mo_122, cw_122⟩, List.forall_mem_cons.mpr ⟨⟨mo_123, cw_123⟩, List.forall_mem_cons.mpr ⟨⟨mo_124, cw_124⟩, List.forall_mem_cons.mpr ⟨⟨mo_125, cw_125⟩, List.forall_mem_cons.mpr ⟨⟨mo_126, cw_126⟩, List.forall_mem_cons.mpr ⟨⟨mo_127, cw_127⟩, fun _ h => absurd h List.not_mem_nil⟩⟩⟩⟩⟩⟩⟩⟩⟩⟩⟩⟩⟩⟩⟩⟩
def mtab_8 : List MT := [mt_128, mt_129, mt_130, mt_131, mt_132, mt_133, mt_134, mt_135, mt_136, mt_137, mt_138, mt_139, mt_140, mt_141, mt_142, mt_143]
theorem mtab_8_ok : ∀ q ∈ mtab_8, mtOK q ∧ mtCW q := List.forall_mem_cons.mpr ⟨⟨mo_128, cw_128⟩, List.forall_mem_cons.mpr ⟨⟨mo_129, cw_129⟩, List.forall_mem_cons.mpr ⟨⟨mo_130, cw_130⟩, List.forall_mem_cons.mpr ⟨⟨mo_131, cw_131⟩, List.forall_mem_cons.mpr ⟨⟨mo_132, cw_132⟩, List.forall_mem_cons.mpr ⟨⟨mo_133, cw_133⟩, List.forall_mem_cons.mpr ⟨⟨mo_134, cw_134⟩, List.forall_mem_cons.mpr ⟨⟨mo_135, cw_135⟩, List.forall_mem_cons.mpr ⟨⟨mo_136, cw_136⟩, List.forall_mem_cons.mpr ⟨⟨mo_137, cw_137⟩, List.forall_mem_cons.mpr ⟨⟨mo_138, cw_138⟩, List.forall_mem_cons.mpr ⟨⟨mo_139, cw_139⟩, List.forall_mem_cons.mpr ⟨⟨mo_140, cw_140⟩, List.forall_mem_cons.mpr ⟨⟨mo_141, cw_141⟩, List.forall_mem_cons.mpr ⟨⟨mo_142, cw_142⟩, List.forall_mem_cons.mpr ⟨⟨mo_143, cw_143⟩, fun _ h => absurd h List.not_mem_nil⟩⟩⟩⟩⟩⟩⟩⟩⟩⟩⟩⟩⟩⟩⟩⟩
def mtab_9 : List MT := [mt_144, mt_145, mt_146, mt_147, mt_148, mt_149, mt_150, mt_151, mt_152, mt_153, mt_154, mt_155, mt_156, mt_157, mt_158, mt_159]
theorem mtab_9_ok : ∀ q ∈ mtab_9, mtOK q ∧ mtCW q := List.forall_mem_cons.mpr ⟨⟨mo_144, cw_144⟩, List.forall_mem_cons.mpr ⟨⟨mo_145, cw_145⟩, List.forall_mem_cons.mpr ⟨⟨mo_146, cw_146⟩, List.forall_mem_cons.mpr ⟨⟨mo_147, cw_147⟩, List.forall_mem_cons.mpr ⟨⟨mo_148, cw_148⟩, List.forall_mem_cons.mpr ⟨⟨mo_149, cw_149⟩, List.forall_mem_cons.mpr ⟨⟨mo_150, cw_150⟩, List.forall_mem_cons.mpr ⟨⟨mo_151, cw_151⟩, List.forall_mem_cons.mpr ⟨⟨mo_152, cw_152⟩, List.forall_mem_cons.mpr ⟨⟨mo_153, cw_153⟩, List.forall_mem_cons.mpr ⟨⟨mo_154, cw_154⟩, List.forall_mem_cons.mpr ⟨⟨mo_155, cw_155⟩, List.forall_mem_cons.mpr ⟨⟨mo_156, cw_156⟩, List.forall_mem_cons.mpr ⟨⟨mo_157, cw_157⟩, List.forall_mem_cons.mpr ⟨⟨mo_158, cw_158⟩, List.forall_mem_cons.mpr ⟨⟨mo_159, cw_159⟩, fun _ h => absurd h List.not_mem_nil⟩⟩⟩⟩⟩⟩⟩⟩⟩⟩⟩⟩⟩⟩⟩⟩
def mtab_10 : List MT := [mt_160, mt_161, mt_162, mt_163, mt_164, mt_165, mt_166, mt_167, mt_168, mt_169, mt_170, mt_171, mt_172, mt_173, mt_174, mt_175]
theorem mtab_10_ok : ∀ q ∈ mtab_10, mtOK q ∧ mtCW q := List.forall_mem_cons.mpr ⟨⟨mo_160, cw_160⟩, List.forall_mem_cons.mpr ⟨⟨mo_161, cw_161⟩, List.forall_mem_cons.mpr ⟨⟨mo_162, cw_162⟩, List.forall_mem_cons.mpr ⟨⟨mo_163, cw_163⟩, List.forall_mem_cons.mpr ⟨⟨mo_164, cw_164⟩, List.forall_mem_cons.mpr ⟨⟨mo_165, cw_165⟩, List.forall_mem_cons.mpr ⟨⟨mo_166, cw_166⟩, List.forall_mem_cons.mpr ⟨⟨mo_167, cw_167⟩, List.forall_mem_cons.mpr ⟨⟨mo_168, cw_168⟩, List.forall_mem_cons.mpr ⟨⟨mo_169, cw_169⟩, List.forall_mem_cons.mpr ⟨⟨mo_170, cw_170⟩, List.forall_mem_cons.mpr ⟨⟨mo_171, cw_171⟩, List.forall_mem_cons.mpr ⟨⟨mo_172, cw_172⟩, List.forall_mem_cons.mpr ⟨⟨mo_173, cw_173⟩, List.forall_mem_cons.mpr ⟨⟨mo_174, cw_174⟩, List.forall_mem_cons.mpr ⟨⟨mo_175, cw_175⟩, fun _ h => absurd h List.not_mem_nil⟩⟩⟩⟩⟩⟩⟩⟩⟩⟩⟩⟩⟩⟩⟩⟩
def mtab_11 : List MT := [mt_176, mt_177, mt_178, mt_179, mt_180, mt_181, mt_182, mt_183, mt_184, mt_185, mt_186, mt_187, mt_188, mt_189, mt_190, mt_191]
theorem mtab_11_ok : ∀ q ∈ mtab_11, mtOK q ∧ mtCW q := List.forall_mem_cons.mpr ⟨⟨mo_176, cw_176⟩, List.forall_mem_cons.mpr ⟨⟨mo_177, cw_177⟩, List.forall_mem_cons.mpr ⟨⟨mo_178, cw_178⟩, List.forall_mem_cons.mpr ⟨⟨mo_179, cw_179⟩, List.forall_mem_cons.mpr ⟨⟨mo_180, cw_180⟩, List.forall_mem_cons.mpr ⟨⟨mo_181, cw_181⟩, List.forall_mem_cons.mpr ⟨⟨mo_182, cw_182⟩, List.forall_mem_cons.mpr ⟨⟨mo_183, cw_183⟩, List.forall_mem_cons.mpr ⟨⟨mo_184, cw_184⟩, List.forall_mem_cons.mpr ⟨⟨mo_185, cw_185⟩, List.forall_mem_cons.mpr ⟨⟨mo_186, cw_186⟩, List.forall_mem_cons.mpr ⟨⟨mo_187, cw_187⟩, List.forall_mem_cons.mpr ⟨⟨mo_188, cw_188⟩, List.forall_mem_cons.mpr ⟨⟨mo_189, cw_189⟩, List.forall_mem_cons.mpr ⟨⟨mo_190, cw_190⟩, List.forall_mem_cons.mpr ⟨⟨mo_191, cw_191⟩, fun _ h => absurd h List.not_mem_nil⟩⟩⟩⟩⟩⟩⟩⟩⟩⟩⟩⟩⟩⟩⟩⟩
def mtab_12 : List MT := [mt_192, mt_193, mt_194, mt_195, mt_196, mt_197, mt_198, mt_199, mt_200, mt_201, mt_202, mt_203, mt_204, mt_205, mt_206, mt_207]
theorem mtab_12_ok : ∀ q ∈ mtab_12, mtOK q ∧ mtCW q := List.forall_mem_cons.mpr ⟨⟨mo_192, cw_192⟩, List.forall_mem_cons.mpr ⟨⟨mo_193, cw_193⟩, List.forall_mem_cons.mpr ⟨⟨mo_194, cw_194⟩, List.forall_mem_cons.mpr ⟨⟨mo_195, cw_195⟩, List.forall_mem_cons.mpr ⟨⟨mo_196, cw_196⟩, List.forall_mem_cons.mpr ⟨⟨mo_197, cw_197⟩, List.forall_mem_cons.mpr ⟨⟨mo_198, cw_198⟩, List.forall_mem_cons.mpr ⟨⟨mo_199, cw_199⟩, List.forall_mem_cons.mpr ⟨⟨mo_200, cw_200⟩, List.forall_mem_cons.mpr ⟨⟨mo_201, cw_201⟩, List.forall_mem_cons.mpr ⟨⟨mo_202, cw_202⟩, List.forall_mem_cons.mpr ⟨⟨mo_203, cw_203⟩, List.forall_mem_cons.mpr ⟨⟨mo_204, cw_204⟩, List.forall_mem_cons.mpr ⟨⟨mo_205, cw_205⟩, List.forall_mem_cons.mpr ⟨⟨mo_206, cw_206⟩, List.forall_mem_cons.mpr ⟨⟨mo_207, cw_207⟩, fun _ h => absurd h List.not_mem_nil⟩⟩⟩⟩⟩⟩⟩⟩⟩⟩⟩⟩⟩⟩⟩⟩
def mtab_13 : List MT := [mt_208, mt_209, mt_210, mt_211, mt_212, mt_213, mt_214, mt_215, mt_216, mt_217, mt_218, mt_219, mt_220, mt_221, mt_222, mt_223]
theorem mtab_13_ok : ∀ q ∈ mtab_13, mtOK q ∧ mtCW q := List.forall_mem_cons.mpr ⟨⟨mo_208, cw_208⟩, List.forall_mem_cons.mpr ⟨⟨mo_209, cw_209⟩, List.forall_mem_cons.mpr ⟨⟨mo_210, cw_210⟩, List.forall_mem_cons.mpr ⟨⟨mo_211, cw_211⟩, List.forall_mem_cons.mpr ⟨⟨mo_212, cw_212⟩, List.forall_mem_cons.mpr ⟨⟨mo_213, cw_213⟩, List.forall_mem_cons.mpr ⟨⟨mo_214, cw_214⟩, List.forall_mem_cons.mpr ⟨⟨mo_215, cw_215⟩, List.forall_mem_cons.mpr ⟨⟨mo_216, cw_216⟩, List.forall_mem_cons.mpr ⟨⟨mo_217, cw_217⟩, List.forall_mem_cons.mpr ⟨⟨mo_218, cw_218⟩, List.forall_mem_cons.mpr ⟨⟨mo_219, cw_219⟩, List.forall_mem_cons.mpr ⟨⟨mo_220, cw_220⟩, List.forall_mem_cons.mpr ⟨⟨mo_221, cw_221⟩, List.forall_mem_cons.mpr ⟨⟨mo_222, cw_222⟩, List.forall_mem_cons.mpr ⟨⟨mo_223, cw_223⟩, fun _ h => absurd h List.not_mem_nil⟩⟩⟩⟩⟩⟩⟩⟩⟩⟩⟩⟩⟩⟩⟩⟩
def mtab_14 : List MT := [mt_224, mt_225, mt_226, mt_227, mt_228, mt_229]
theorem mtab_14_ok : ∀ q ∈ mtab_14, mtOK q ∧ mtCW q := List.forall_mem_cons.mpr ⟨⟨mo_224, cw_224⟩, List.forall_mem_cons.mpr ⟨⟨mo_225, cw_225⟩, List.forall_mem_cons.mpr ⟨⟨mo_226, cw_226⟩, List.forall_mem_cons.mpr ⟨⟨mo_227, cw_227⟩, List.forall_mem_cons.mpr ⟨⟨mo_228, cw_228⟩, List.forall_mem_cons.mpr ⟨⟨mo_229, cw_229⟩, fun _ h => absurd h List.not_mem_nil⟩⟩⟩⟩⟩⟩
def mtab : List MT := mtab_0 ++ (mtab_1 ++ (mtab_2 ++ (mtab_3 ++ (mtab_4 ++ (mtab_5 ++ (mtab_6 ++ (mtab_7 ++ (mtab_8 ++ (mtab_9 ++ (mtab_10 ++ (mtab_11 ++ (mtab_12 ++ (mtab_13 ++ (mtab_14))))))))))))))
theorem mtab_ok : ∀ q ∈ mtab, mtOK q ∧ mtCW q := (fun q h => (List.mem_append.mp h).elim (mtab_0_ok q) ((fun q h => (List.mem_append.mp h).elim (mtab_1_ok q) ((fun q h => (List.mem_append.mp h).elim (mtab_2_ok q) ((fun q h => (List.mem_append.mp h).elim (mtab_3_ok q) ((fun q h => (List.mem_append.mp h).elim (mtab_4_ok q) ((fun q h => (List.mem_append.mp h).elim (mtab_5_ok q) ((fun q h => (List.mem_append.mp h).elim (mtab_6_ok q) ((fun q h => (List.mem_append.mp h).elim (mtab_7_ok q) ((fun q h => (List.mem_append.mp h).elim (mtab_8_ok q) ((fun q h => (List.mem_append.mp h).elim (mtab_9_ok q) ((fun q h => (List.mem_append.mp h).elim (mtab_10_ok q) ((fun q h => (List.mem_append.mp h).elim (mtab_11_ok q) ((fun q h => (List.mem_append.mp h).elim (mtab_12_ok q) ((fun q h => (List.mem_append.mp h).elim (mtab_13_ok q) (mtab_14_ok q)) q)) q)) q)) q)) q)) q)) q)) q)) q)) q)) q)) q)) q))
def mtabL : List MT := mtab ++ [mt_230]
theorem mtabL_ok : ∀ q ∈ mtabL, mtOK q := fun q h => (List.mem_append.mp h).elim (fun h => (mtab_ok q h).1) (fun h => (List.mem_singleton.mp h) ▸ mo_230)
-- fields: ((own, constant), class, place, nest, position of the link)
def flds : List ((Nat × Nat) × Nat × Nat × Nat × Nat) := [((0, 15), 13, 0, 0, 118), ((0, 22), 13, 1, 0, 119), ((2, 9), 7, 1, 0, 139), ((2, 15), 7, 2, 0, 141), ((2, 18), 7, 3, 0, 143), ((2, 21), 7, 4, 0, 145), ((2, 24), 7, 0, 0, 138), ((3, 7), 9, 0, 0, 186), ((3, 13), 9, 1, 0, 188), ((3, 16), 9, 2, 0, 190), ((3, 19), 9, 3, 0, 193), ((4, 7), 8, 0, 0, 210), ((4, 13), 8, 1, 0, 211), ((4, 16), 8, 2, 0, 212), ((4, 19), 8, 3, 0, 213), ((5, 7), 4, 0, 0, 243), ((6, 9), 3, 0, 0, 268), ((6, 15), 3, 1, 0, 269), ((7, 12), 2, 0, 0, 287), ((8, 47), 5, 6, 0, 340), ((8, 51), 5, 7, 0, 343), ((8, 54), 5, 8, 0, 345), ((8, 57), 5, 9, 0, 347), ((8, 11), 5, 0, 0, 327), ((8, 20), 5, 1, 0, 329), ((8, 24), 5, 2, 0, 332), ((8, 27), 5, 3, 0, 333), ((8, 30), 5, 4, 0, 335), ((8, 38), 5, 5, 0, 338), ((9, 12), 0, 1, 0, 399), ((9, 18), 0, 2, 0, 402), ((9, 22), 0, 0, 0, 398), ((10, 12), 10, 0, 0, 425), ((10, 23), 10, 1, 0, 427), ((10, 29), 10, 2, 0, 431), ((10, 35), 10, 3, 0, 432), ((10, 42), 10, 4, 0, 433), ((11, 9), 6, 0, 0, 492), ((12, 9), 1, 1, 0, 506), ((12, 15), 1, 2, 0, 508), ((12, 18), 1, 0, 0, 505), ((13, 10), 11, 0, 0, 521), ((13, 16), 11, 1, 0, 522), ((13, 24), 11, 2, 0, 523), ((13, 31), 11, 3, 0, 524), ((13, 40), 11, 4, 0, 525), ((13, 47), 11, 5, 0, 526), ((14, 9), 12, 0, 0, 1298), ((14, 13), 12, 3, 0, 1301), ((14, 16), 12, 4, 0, 1302), ((14, 19), 12, 5, 0, 1303), ((14, 22), 12, 6, 0, 1304), ((14, 25), 12, 7, 0, 1305), ((14, 29), 12, 8, 0, 1306), ((14, 32), 12, 9, 0, 1307), ((14, 35), 12, 10, 0, 1308), ((14, 38), 12, 11, 0, 1309), ((14, 41), 12, 12, 0, 1310), ((14, 44), 12, 20, 0, 1318), ((14, 47), 12, 21, 0, 1319), ((14, 50), 12, 22, 0, 1320), ((14, 53), 12, 23, 0, 1321), ((14, 56), 12, 24, 0, 1322), ((14, 60), 12, 25, 0, 1323), ((14, 63), 12, 26, 0, 1324), ((14, 66), 12, 27, 0, 1325), ((14, 69), 12, 28, 0, 1326), ((14, 72), 12, 29, 0, 1327), ((14, 75), 12, 30, 0, 1328), ((14, 78), 12, 31, 0, 1329), ((14, 81), 12, 32, 0, 1330), ((14, 84), 12, 33, 0, 1331), ((14, 87), 12, 34, 0, 1332), ((14, 90), 12, 35, 0, 1333), ((14, 93), 12, 39, 0, 1337), ((14, 96), 12, 40, 0, 1338), ((14, 99), 12, 41, 0, 1339), ((14, 102), 12, 42, 0, 1340), ((14, 105), 12, 43, 0, 1341), ((14, 108), 12, 44, 0, 1342), ((14, 111), 12, 45, 0, 1343), ((14, 114), 12, 46, 0, 1344), ((14, 117), 12, 47, 0, 1345), ((14, 120), 12, 48, 0, 1346), ((14, 123), 12, 49, 0, 1347), ((14, 126), 12, 50, 0, 1348), ((14, 129), 12, 51, 0, 1349), ((14, 132), 12, 52, 0, 1350), ((14, 135), 12, 53, 0, 1351), ((14, 138), 12, 54, 0, 1352), ((14, 141), 12, 55, 0, 1353), ((14, 144), 12, 56, 0, 1354), ((14, 148), 12, 57, 0, 1355), ((14, 151), 12, 62, 0, 1360), ((14, 154), 12, 63, 0, 1361), ((14, 157), 12, 64, 0, 1362), ((14, 160), 12, 65, 0, 1363), ((14, 163), 12, 66, 0, 1364), ((14, 166), 12, 67, 0, 1365), ((14, 169), 12, 69, 0, 1367), ((14, 172), 12, 70, 0, 1368), ((14, 175), 12, 71, 0, 1369), ((14, 178), 12, 72, 0, 1370), ((14, 181), 12, 73, 0, 1371), ((14, 184), 12, 74, 0, 1372), ((14, 187), 12, 75, 0, 1373), ((14, 190), 12, 76, 0, 1374), ((14, 193), 12, 79, 0, 1377), ((0, 79), 13, 3, 0, 121), ((14, 208), 12, 1, 0, 1299), ((2, 28), 7, 7, 0, 151), ((2, 86), 7, 8, 0, 153), ((2, 32), 7, 5, 0, 147), ((2, 35), 7, 6, 0, 149), ((0, 73), 13, 2, 0, 120), ((10, 50), 10, 5, 0, 435), ((6, 18), 3, 2, 0, 270), ((7, 18), 2, 4, 0, 301), ((7, 22), 2, 6, 0, 306), ((8, 71), 5, 10, 0, 350), ((8, 74), 5, 11, 0, 353), ((8, 77), 5, 12, 0, 356), ((8, 80), 5, 13, 0, 359), ((5, 29), 4, 1, 0, 244), ((5, 33), 4, 2, 0, 246), ((4, 26), 8, 4, 0, 214), ((4, 23), 8, 5, 0, 215), ((9, 59), 0, 3, 0, 403), ((9, 26), 0, 4, 0, 404), ((9, 35), 0, 5, 0, 406), ((9, 55), 0, 6, 0, 408), ((7, 28), 2, 1, 0, 290), ((7, 32), 2, 2, 0, 294), ((7, 35), 2, 3, 0, 298), ((10, 126), 10, 12, 0, 451), ((10, 97), 10, 8, 0, 443), ((10, 135), 10, 6, 0, 440), ((10, 100), 10, 11, 0, 448), ((10, 103), 10, 9, 0, 444), ((10, 106), 10, 14, 0, 454), ((10, 113), 10, 10, 0, 446), ((10, 65), 7, 5, 1, 148), ((10, 68), 7, 1, 1, 140), ((10, 72), 7, 2, 1, 142), ((10, 75), 7, 3, 1, 144), ((10, 78), 7, 4, 1, 146), ((10, 85), 7, 6, 1, 150), ((11, 15), 6, 1, 0, 493), ((11, 19), 10, 5, 1, 436), ((11, 28), 5, 4, 1, 336), ((13, 69), 7, 7, 1, 152), ((13, 80), 10, 5, 1, 437), ((14, 212), 12, 60, 0, 1358), ((14, 215), 12, 61, 0, 1359), ((14, 268), 12, 17, 0, 1315), ((14, 262), 12, 37, 0, 1335), ((14, 271), 12, 14, 0, 1312), ((14, 243), 12, 15, 0, 1313), ((14, 246), 12, 58, 0, 1356), ((14, 249), 12, 59, 0, 1357), ((14, 253), 12, 16, 0, 1314), ((14, 256), 12, 18, 0, 1316), ((14, 259), 12, 19, 0, 1317), ((14, 196), 12, 2, 0, 1300), ((13, 83), 10, 14, 1, 453), ((13, 88), 10, 0, 1, 426), ((13, 101), 10, 1, 1, 430), ((13, 105), 8, 5, 1, 218), ((14, 275), 12, 13, 0, 1311), ((10, 58), 5, 9, 1, 348), ((10, 61), 5, 0, 1, 328), ((10, 168), 2, 0, 1, 288), ((10, 156), 8, 5, 1, 219), ((9, 30), 9, 2, 1, 191), ((9, 58), 9, 1, 1, 189), ((10, 145), 2, 4, 1, 302), ((9, 38), 9, 0, 1, 187), ((10, 153), 2, 1, 1, 292), ((10, 276), 5, 10, 1, 352), ((10, 279), 5, 11, 1, 355), ((10, 212), 2, 3, 1, 300), ((10, 215), 2, 2, 1, 297), ((10, 150), 2, 5, 1, 304), ((10, 295), 5, 6, 1, 342), ((10, 132), 10, 13, 0, 452), ((10, 165), 0, 1, 1, 400), ((10, 171), 5, 1, 1, 330), ((10, 223), 9, 3, 1, 194), ((10, 233), 5, 12, 1, 358), ((10, 244), 5, 13, 1, 361), ((8, 98), 2, 5, 1, 305), ((8, 101), 2, 6, 1, 307), ((10, 138), 10, 7, 0, 442), ((14, 312), 12, 36, 0, 1334), ((14, 318), 12, 38, 0, 1336), ((14, 291), 12, 68, 0, 1366), ((13, 120), 10, 12, 1, 450), ((13, 130), 10, 11, 1, 449), ((13, 142), 10, 6, 1, 441), ((13, 145), 10, 9, 1, 445), ((13, 148), 10, 10, 1, 447), ((13, 160), 5, 6, 1, 341), ((13, 165), 5, 9, 1, 349), ((13, 166), 5, 7, 1, 344), ((13, 169), 5, 8, 1, 346), ((13, 172), 5, 10, 1, 351), ((13, 175), 5, 11, 1, 354), ((13, 178), 5, 12, 1, 357), ((13, 181), 5, 13, 1, 360), ((13, 188), 2, 0, 1, 289), ((13, 193), 2, 1, 1, 293), ((13, 196), 2, 2, 1, 296), ((13, 199), 2, 3, 1, 299), ((13, 202), 2, 4, 1, 303), ((13, 213), 0, 4, 1, 405), ((13, 218), 0, 5, 1, 407), ((13, 221), 0, 1, 1, 401), ((13, 224), 0, 6, 1, 409), ((13, 227), 9, 2, 1, 192), ((13, 230), 5, 1, 1, 331), ((13, 238), 5, 3, 1, 334), ((13, 241), 10, 4, 1, 434), ((13, 245), 4, 1, 1, 245), ((13, 250), 4, 2, 1, 247), ((11, 62), 5, 5, 1, 339), ((11, 70), 8, 5, 1, 217), ((11, 39), 10, 6, 1, 438), ((11, 45), 10, 1, 1, 428), ((13, 259), 5, 4, 1, 337), ((12, 54), 2, 1, 1, 291), ((12, 63), 10, 6, 1, 439), ((12, 66), 10, 1, 1, 429), ((12, 70), 8, 5, 1, 216), ((12, 78), 2, 2, 1, 295), ((12, 26), 1, 3, 0, 510), ((14, 393), 12, 78, 0, 1376), ((14, 396), 12, 77, 0, 1375), ((13, 265), 1, 3, 1, 511), ((13, 268), 1, 1, 1, 507), ((13, 272), 1, 2, 1, 509), ((14, 402), 12, 80, 0, 1378)]
def fldOK (q : (Nat × Nat) × Nat × Nat × Nat × Nat) : Bool := match classes[q.2.1]? with
  | some r => decide (q.2.2.1 < r.2.2) && (if q.2.2.2.1 = 0 then hasW q.2.2.2.2 (.fieldLink (oN q.1.1) q.1.2 (r.2.1 q.2.2.1).1 (r.2.1 q.2.2.1).2.1 (r.2.1 q.2.2.1).2.2.1) else hasN q.2.2.2.2 (.fieldLinkNest (oN q.1.1) q.1.2 (r.2.1 q.2.2.1).1 (r.2.1 q.2.2.1).2.1 (r.2.1 q.2.2.1).2.2.1 "PipelineSimulator"))
  | none => false
theorem flds_ok : flds.all fldOK = true := by decide +kernel
-- calls: ((own, constant), kind, method, arguments, positions)
abbrev ST : Type := (Nat × Nat) × Nat × Nat × Nat × List Nat
def sites_0 : List ST := [((0, 3), 8, 0, 0, [108]), ((1, 1), 2, 0, 1, [105, 107, 67, 106]), ((2, 3), 8, 0, 0, [137]), ((3, 1), 8, 0, 0, [185]), ((4, 1), 8, 0, 0, [209]), ((5, 1), 8, 0, 0, [242]), ((6, 3), 8, 0, 0, [267]), ((7, 1), 8, 0, 0, [284]), ((7, 9), 2, 4, 1, [286, 208, 74, 207]), ((8, 3), 8, 0, 0, [259]), ((8, 19), 6, 6, 0, [264, 266, 77, 265]), ((8, 35), 2, 4, 1, [279, 208, 74, 207]), ((8, 42), 6, 7, 0, [281, 283, 78, 282]), ((8, 43), 1, 8, 4, [323, 326, 76, 324, 325]), ((9, 1), 8, 0, 0, [395]), ((9, 9), 2, 4, 1, [397, 208, 74, 207]), ((10, 3), 8, 0, 0, [179]), ((10, 11), 6, 3, 0, [182, 184, 73, 183]), ((10, 20), 2, 4, 1, [206, 208, 74, 207]), ((10, 41), 6, 5, 0, [239, 241, 75, 240]), ((10, 46), 2, 9, 1, [256, 258, 76, 257]), ((10, 47), 2, 10, 1, [392, 394, 79, 393]), ((11, 3), 8, 0, 0, [491]), ((12, 3), 8, 0, 0, [504]), ((13, 1), 8, 0, 0, [97]), ((13, 9), 2, 1, 0, [102, 104, 68, 103]), ((13, 21), 2, 2, 1, [134, 136, 71, 135]), ((13, 30), 2, 11, 0, [176, 178, 72, 177]), ((13, 37), 2, 12, 1, [488, 490, 80, 489]), ((13, 46), 2, 13, 1, [501, 503, 81, 502])]
def sites_1 : List ST := [((14, 3), 8, 0, 0, [1296]), ((1, 343), 4, 16, 0, [549, 551, 67, 550, 1808, 130]), ((16, 194), 0, 18, 2, [571, 573, 84, 572]), ((0, 114), 0, 19, 3, [568, 570, 83, 569]), ((17, 304), 0, 21, 2, [589, 591, 84, 590]), ((17, 150), 9, 0, 5, [592]), ((0, 104), 3, 20, 1, [564, 567, 67, 566, 1811, 1]), ((0, 108), 0, 22, 2, [579, 581, 85, 580]), ((0, 100), 3, 23, 1, [560, 563, 67, 562, 1810, 0]), ((0, 83), 3, 24, 0, [595, 599, 67, 596, 597, 598]), ((0, 191), 0, 25, 1, [600, 602, 87, 601]), ((1, 50), 4, 26, 1, [557, 559, 67, 558, 1809, 130]), ((13, 52), 1, 17, 0, [545, 548, 68, 546, 547]), ((13, 57), 1, 27, 1, [553, 556, 68, 554, 555]), ((14, 203), 0, 29, 3, [1547, 1549, 82, 1548]), ((20, 1059), 0, 31, 3, [645, 647, 88, 646]), ((0, 138), 0, 21, 2, [668, 591, 84, 590]), ((0, 144), 0, 32, 2, [669, 644, 69, 643]), ((1, 329), 4, 33, 1, [665, 667, 67, 666, 1813, 130]), ((2, 52), 1, 17, 0, [660, 548, 68, 546, 547]), ((2, 57), 1, 34, 1, [661, 664, 68, 662, 663]), ((20, 335), 7, 37, 0, [699, 702, 69, 700, 701]), ((18, 88), 0, 39, 1, [706, 708, 87, 707]), ((18, 92), 0, 18, 2, [709, 573, 84, 572]), ((18, 38), 0, 21, 2, [710, 591, 84, 590]), ((18, 95), 0, 40, 4, [711, 713, 87, 712]), ((20, 492), 7, 36, 0, [690, 693, 69, 691, 692]), ((20, 505), 7, 38, 0, [695, 698, 69, 696, 697]), ((20, 637), 0, 41, 4, [703, 705, 87, 704]), ((20, 633), 7, 42, 2, [686, 689, 69, 687, 688])]
def sites_2 : List ST := [((2, 38), 1, 35, 0, [656, 659, 71, 658, 2]), ((2, 76), 1, 45, 1, [753, 756, 71, 755, 5]), ((2, 89), 1, 46, 0, [761, 764, 71, 763, 7]), ((2, 46), 1, 49, 0, [773, 776, 71, 775, 10]), ((2, 67), 7, 43, 1, [682, 685, 69, 683, 684]), ((2, 73), 5, 44, 1, [750, 752, 66, 751]), ((2, 80), 1, 47, 0, [757, 760, 71, 759, 6]), ((2, 83), 1, 48, 1, [765, 768, 71, 767, 8]), ((2, 49), 1, 50, 0, [769, 772, 71, 771, 9]), ((2, 61), 1, 51, 1, [677, 680, 71, 679, 4]), ((2, 42), 1, 52, 0, [673, 676, 71, 675, 3]), ((1, 333), 4, 54, 1, [781, 783, 67, 782, 1814, 130]), ((6, 28), 0, 57, 2, [818, 820, 85, 819]), ((8, 86), 1, 59, 0, [825, 828, 78, 826, 827]), ((8, 68), 1, 58, 0, [814, 817, 77, 815, 816]), ((8, 83), 1, 60, 0, [821, 824, 76, 822, 823]), ((5, 38), 0, 57, 2, [833, 820, 85, 819]), ((9, 65), 1, 63, 0, [842, 845, 74, 843, 844]), ((6, 22), 9, 0, 5, [854]), ((7, 25), 1, 63, 0, [859, 845, 74, 843, 844]), ((8, 87), 1, 65, 1, [850, 853, 77, 851, 852]), ((8, 91), 1, 66, 0, [855, 858, 78, 856, 857]), ((10, 221), 1, 64, 0, [838, 841, 79, 839, 840]), ((10, 222), 1, 67, 0, [846, 849, 76, 847, 848]), ((10, 91), 1, 61, 0, [810, 813, 76, 811, 812]), ((10, 94), 1, 62, 0, [829, 832, 75, 830, 831]), ((10, 110), 1, 68, 0, [834, 837, 72, 836, 11]), ((10, 54), 1, 56, 1, [801, 804, 72, 802, 803]), ((10, 81), 1, 8, 4, [805, 326, 76, 324, 325]), ((10, 88), 1, 69, 0, [806, 809, 72, 807, 808])]
def sites_3 : List ST := [((11, 24), 1, 56, 1, [864, 804, 72, 802, 803]), ((11, 34), 1, 58, 0, [865, 817, 77, 815, 816]), ((13, 61), 1, 53, 0, [652, 655, 71, 653, 654]), ((13, 65), 1, 55, 1, [777, 780, 68, 778, 779]), ((13, 73), 1, 70, 1, [797, 800, 72, 798, 799]), ((13, 77), 1, 71, 0, [860, 863, 80, 861, 862]), ((14, 219), 1, 73, 0, [1556, 1559, 82, 1558, 26]), ((14, 222), 0, 74, 1, [1564, 1566, 82, 1565]), ((14, 226), 1, 75, 1, [1567, 1570, 82, 1569, 28]), ((14, 230), 1, 76, 2, [1571, 1574, 82, 1573, 29]), ((14, 234), 1, 77, 0, [1575, 1578, 82, 1577, 30]), ((14, 265), 1, 79, 0, [1583, 1586, 82, 1585, 32]), ((14, 237), 1, 78, 1, [1560, 1563, 82, 1562, 27]), ((14, 240), 1, 80, 0, [1579, 1582, 82, 1581, 31]), ((13, 92), 1, 82, 0, [871, 874, 73, 872, 873]), ((13, 97), 1, 83, 4, [875, 878, 73, 876, 877]), ((13, 110), 1, 86, 3, [883, 886, 74, 884, 885]), ((10, 129), 1, 90, 1, [903, 906, 72, 904, 905]), ((10, 141), 1, 91, 2, [907, 910, 72, 908, 909]), ((10, 157), 1, 89, 0, [895, 898, 79, 896, 897]), ((10, 161), 1, 92, 0, [899, 902, 72, 900, 901]), ((9, 52), 1, 95, 1, [927, 930, 79, 929, 13]), ((9, 41), 1, 94, 0, [919, 922, 79, 920, 921]), ((9, 45), 1, 96, 0, [923, 926, 79, 925, 12]), ((10, 190), 1, 98, 0, [943, 946, 76, 944, 945]), ((10, 193), 1, 99, 1, [947, 950, 74, 948, 949]), ((10, 196), 1, 100, 2, [951, 954, 76, 952, 953]), ((10, 200), 0, 101, 2, [955, 957, 84, 956]), ((9, 48), 1, 86, 3, [978, 886, 74, 884, 885]), ((10, 247), 1, 102, 2, [939, 942, 72, 940, 941])]
def sites_4 : List ST := [((10, 205), 1, 103, 3, [958, 961, 72, 959, 960]), ((10, 251), 1, 104, 0, [962, 965, 79, 963, 964]), ((10, 254), 1, 105, 1, [966, 969, 74, 967, 968]), ((10, 257), 1, 106, 1, [970, 973, 74, 971, 972]), ((10, 260), 1, 107, 3, [974, 977, 79, 975, 976]), ((10, 264), 1, 108, 0, [979, 982, 74, 980, 981]), ((10, 209), 1, 110, 0, [991, 994, 79, 992, 993]), ((10, 267), 1, 111, 2, [987, 990, 72, 988, 989]), ((10, 270), 1, 112, 0, [995, 998, 79, 996, 997]), ((10, 273), 1, 86, 3, [1003, 886, 74, 884, 885]), ((10, 218), 1, 115, 0, [1012, 1015, 79, 1013, 1014]), ((9, 62), 1, 108, 0, [1024, 982, 74, 980, 981]), ((8, 64), 1, 100, 2, [1033, 954, 76, 952, 953]), ((8, 94), 1, 119, 2, [1034, 1037, 77, 1035, 1036]), ((10, 305), 1, 120, 1, [1029, 1032, 76, 1030, 1031]), ((5, 14), 0, 21, 2, [1043, 591, 84, 590]), ((5, 20), 0, 18, 2, [1044, 573, 84, 572]), ((5, 23), 0, 122, 2, [1045, 1047, 85, 1046]), ((8, 120), 1, 125, 1, [1067, 1070, 77, 1068, 1069]), ((8, 127), 1, 126, 1, [1071, 1074, 77, 1072, 1073]), ((8, 104), 1, 86, 3, [1057, 886, 74, 884, 885]), ((8, 130), 1, 127, 1, [1075, 1078, 77, 1076, 1077]), ((8, 124), 1, 128, 3, [1079, 1082, 77, 1080, 1081]), ((8, 108), 1, 124, 1, [1058, 1061, 76, 1060, 20]), ((8, 111), 0, 101, 2, [1062, 957, 84, 956]), ((8, 116), 1, 129, 5, [1063, 1066, 76, 1065, 21]), ((8, 60), 1, 130, 1, [1083, 1086, 77, 1084, 1085]), ((10, 282), 1, 116, 2, [1008, 1011, 72, 1009, 1010]), ((10, 285), 1, 117, 0, [1016, 1019, 79, 1017, 1018]), ((10, 288), 1, 118, 0, [1020, 1023, 79, 1021, 1022])]
def sites_5 : List ST := [((10, 291), 1, 121, 3, [1025, 1028, 72, 1027, 19]), ((10, 298), 1, 123, 1, [1038, 1041, 75, 1039, 1040]), ((10, 301), 1, 131, 5, [1053, 1056, 76, 1054, 1055]), ((10, 226), 1, 109, 3, [935, 938, 72, 937, 15]), ((10, 230), 1, 113, 3, [983, 986, 72, 985, 16]), ((10, 236), 1, 114, 2, [999, 1002, 72, 1001, 17]), ((10, 240), 1, 132, 4, [1004, 1007, 72, 1006, 18]), ((10, 308), 1, 134, 0, [1091, 1094, 76, 1092, 1093]), ((10, 180), 1, 97, 0, [915, 918, 79, 916, 917]), ((10, 183), 1, 133, 2, [931, 934, 72, 933, 14]), ((10, 187), 1, 135, 0, [1087, 1090, 72, 1089, 22]), ((13, 114), 1, 93, 0, [891, 894, 72, 892, 893]), ((13, 117), 1, 136, 0, [911, 914, 72, 912, 913]), ((14, 281), 1, 142, 1, [1641, 1644, 82, 1643, 40]), ((14, 285), 1, 143, 2, [1645, 1648, 82, 1647, 41]), ((14, 288), 0, 141, 2, [1634, 1636, 82, 1635]), ((14, 278), 1, 139, 1, [1618, 1621, 82, 1620, 35]), ((14, 324), 0, 145, 3, [1649, 1651, 82, 1650]), ((14, 341), 1, 148, 1, [1664, 1667, 82, 1666, 45]), ((14, 344), 1, 144, 3, [1637, 1640, 82, 1639, 39]), ((14, 347), 1, 146, 1, [1652, 1655, 82, 1654, 42]), ((14, 350), 1, 147, 4, [1656, 1659, 82, 1658, 43]), ((14, 354), 1, 149, 2, [1660, 1663, 82, 1662, 44]), ((14, 357), 1, 150, 1, [1668, 1671, 82, 1670, 46]), ((14, 315), 1, 155, 2, [1692, 1695, 82, 1694, 52]), ((14, 199), 1, 140, 0, [1622, 1625, 82, 1624, 36]), ((14, 321), 1, 156, 0, [1696, 1699, 82, 1698, 53]), ((14, 294), 1, 158, 2, [1708, 1711, 82, 1710, 56]), ((14, 298), 0, 159, 1, [1712, 1714, 82, 1713]), ((14, 301), 1, 160, 6, [1704, 1707, 82, 1706, 55])]
def sites_6 : List ST := [((14, 305), 1, 152, 5, [1676, 1679, 82, 1678, 48]), ((14, 328), 1, 153, 2, [1680, 1683, 82, 1682, 49]), ((14, 331), 1, 154, 1, [1684, 1687, 82, 1686, 50]), ((14, 334), 1, 157, 3, [1688, 1691, 82, 1690, 51]), ((14, 338), 1, 161, 5, [1700, 1703, 82, 1702, 54]), ((14, 360), 1, 151, 2, [1630, 1633, 82, 1632, 38]), ((14, 364), 1, 162, 2, [1672, 1675, 82, 1674, 47]), ((14, 367), 1, 163, 2, [1626, 1629, 82, 1628, 37]), ((14, 370), 1, 138, 0, [1610, 1613, 82, 1612, 33]), ((14, 374), 1, 164, 0, [1614, 1617, 82, 1616, 34]), ((13, 124), 1, 168, 0, [1104, 1107, 72, 1105, 1106]), ((13, 127), 1, 171, 0, [1112, 1115, 72, 1113, 1114]), ((10, 116), 1, 171, 0, [1126, 1115, 72, 1113, 1114]), ((10, 119), 1, 174, 1, [1127, 1130, 76, 1128, 1129]), ((10, 123), 1, 60, 0, [1131, 824, 76, 822, 823]), ((13, 133), 1, 56, 1, [1120, 804, 72, 802, 803]), ((13, 138), 1, 175, 2, [1122, 1125, 72, 1123, 1124]), ((14, 377), 1, 177, 1, [1732, 1735, 82, 1734, 57]), ((10, 175), 1, 126, 1, [1145, 1074, 77, 1072, 1073]), ((13, 151), 1, 179, 0, [1136, 1139, 72, 1137, 1138]), ((13, 154), 1, 92, 0, [1140, 902, 72, 900, 901]), ((13, 157), 1, 180, 0, [1141, 1144, 72, 1142, 1143]), ((14, 380), 1, 182, 1, [1740, 1743, 82, 1742, 58]), ((13, 184), 1, 91, 2, [1154, 910, 72, 908, 909]), ((13, 205), 1, 186, 1, [1155, 1158, 76, 1156, 1157]), ((14, 383), 1, 188, 2, [1752, 1755, 82, 1754, 59]), ((13, 209), 1, 103, 3, [1163, 961, 72, 959, 960]), ((13, 295), 1, 130, 1, [1171, 1086, 77, 1084, 1085]), ((13, 301), 1, 125, 1, [1172, 1070, 77, 1068, 1069]), ((13, 304), 1, 126, 1, [1173, 1074, 77, 1072, 1073])]
def sites_7 : List ST := [((13, 234), 0, 192, 3, [1168, 1170, 66, 1169]), ((14, 386), 1, 194, 6, [1764, 1767, 82, 1766, 60]), ((13, 253), 1, 198, 1, [1182, 1185, 75, 1183, 1184]), ((11, 65), 1, 63, 0, [1201, 845, 74, 843, 844]), ((11, 66), 1, 131, 5, [1202, 1056, 76, 1054, 1055]), ((11, 49), 1, 99, 1, [1196, 950, 74, 948, 949]), ((11, 55), 1, 105, 1, [1197, 969, 74, 967, 968]), ((11, 58), 0, 201, 4, [1198, 1200, 80, 1199]), ((11, 42), 1, 71, 0, [1195, 863, 80, 861, 862]), ((13, 256), 1, 202, 0, [1191, 1194, 80, 1192, 1193]), ((14, 390), 1, 204, 0, [1776, 1779, 82, 1778, 61]), ((12, 34), 1, 91, 2, [1215, 910, 72, 908, 909]), ((12, 40), 1, 102, 2, [1216, 942, 72, 940, 941]), ((12, 44), 1, 103, 3, [1217, 961, 72, 959, 960]), ((12, 48), 1, 104, 0, [1218, 965, 79, 963, 964]), ((12, 60), 1, 111, 2, [1219, 990, 72, 988, 989]), ((12, 75), 1, 116, 2, [1220, 1011, 72, 1009, 1010]), ((12, 81), 0, 207, 1, [1225, 1227, 81, 1226]), ((12, 22), 1, 206, 2, [1211, 1214, 81, 1213, 23]), ((12, 30), 1, 208, 3, [1221, 1224, 81, 1223, 24]), ((13, 262), 1, 209, 2, [1207, 1210, 81, 1208, 1209]), ((14, 399), 1, 211, 2, [1784, 1787, 82, 1786, 62]), ((18, 9), 0, 32, 2, [1249, 644, 69, 643]), ((20, 495), 0, 215, 2, [1246, 1248, 87, 1247]), ((0, 245), 0, 217, 1, [1261, 1263, 91, 1262]), ((0, 248), 0, 218, 3, [1264, 1266, 91, 1265]), ((1, 53), 4, 219, 1, [1258, 1260, 67, 1259, 1815, 130]), ((13, 309), 7, 38, 0, [1241, 698, 69, 696, 697]), ((13, 312), 7, 216, 1, [1242, 1245, 69, 1243, 1244]), ((13, 313), 0, 44, 1, [1253, 752, 66, 751])]
def sites_8 : List ST := [((13, 282), 1, 220, 1, [1254, 1257, 68, 1255, 1256]), ((13, 275), 1, 221, 1, [1236, 1239, 66, 1238, 25]), ((13, 279), 1, 90, 1, [1279, 906, 72, 904, 905]), ((14, 405), 1, 223, 1, [1796, 1799, 82, 1798, 63]), ((14, 408), 1, 224, 1, [1800, 1803, 82, 1802, 64]), ((13, 285), 1, 34, 1, [1284, 664, 68, 662, 663]), ((13, 289), 1, 63, 0, [1289, 845, 74, 843, 844]), ((13, 292), 1, 69, 0, [1290, 809, 72, 807, 808]), ((22, 9), 2, 14, 0, [94, 96, 66, 95]), ((22, 12), 2, 15, 0, [1293, 1295, 82, 1294]), ((22, 13), 1, 28, 2, [540, 543, 66, 541, 542]), ((22, 17), 1, 30, 2, [1543, 1546, 82, 1544, 1545]), ((22, 18), 1, 72, 0, [648, 651, 66, 649, 650]), ((22, 22), 1, 81, 0, [1552, 1555, 82, 1553, 1554]), ((22, 23), 1, 84, 4, [866, 869, 66, 867, 868]), ((22, 27), 1, 85, 4, [1587, 1590, 82, 1588, 1589]), ((22, 28), 1, 87, 2, [879, 882, 66, 880, 881]), ((22, 31), 1, 88, 2, [1592, 1595, 82, 1593, 1594]), ((22, 32), 1, 137, 1, [887, 890, 66, 888, 889]), ((22, 36), 1, 165, 1, [1606, 1609, 82, 1607, 1608]), ((22, 37), 1, 166, 0, [1095, 1098, 66, 1096, 1097]), ((22, 40), 1, 167, 0, [1715, 1718, 82, 1716, 1717]), ((22, 41), 1, 169, 0, [1099, 1102, 66, 1100, 1101]), ((22, 44), 1, 170, 0, [1719, 1722, 82, 1720, 1721]), ((22, 45), 1, 172, 0, [1108, 1111, 66, 1109, 1110]), ((22, 48), 1, 173, 0, [1724, 1727, 82, 1725, 1726]), ((22, 49), 1, 176, 2, [1116, 1119, 66, 1117, 1118]), ((22, 52), 1, 178, 2, [1728, 1731, 82, 1729, 1730]), ((22, 53), 1, 181, 1, [1132, 1135, 66, 1133, 1134]), ((22, 56), 1, 183, 1, [1736, 1739, 82, 1737, 1738])]
def sites_9 : List ST := [((22, 57), 1, 184, 2, [1146, 1149, 66, 1147, 1148]), ((22, 60), 1, 185, 2, [1744, 1747, 82, 1745, 1746]), ((22, 61), 1, 187, 3, [1150, 1153, 66, 1151, 1152]), ((22, 65), 1, 189, 3, [1748, 1751, 82, 1749, 1750]), ((22, 66), 1, 190, 4, [1159, 1162, 66, 1160, 1161]), ((22, 69), 1, 191, 4, [1756, 1759, 82, 1757, 1758]), ((22, 70), 1, 193, 3, [1164, 1167, 66, 1165, 1166]), ((22, 73), 1, 195, 3, [1760, 1763, 82, 1761, 1762]), ((22, 74), 1, 196, 3, [1174, 1177, 66, 1175, 1176]), ((22, 77), 1, 197, 3, [1768, 1771, 82, 1769, 1770]), ((22, 78), 1, 199, 1, [1178, 1181, 66, 1179, 1180]), ((22, 81), 1, 200, 1, [1600, 1603, 82, 1601, 1602]), ((22, 82), 1, 203, 2, [1187, 1190, 66, 1188, 1189]), ((22, 85), 1, 205, 2, [1772, 1775, 82, 1773, 1774]), ((22, 86), 1, 210, 2, [1203, 1206, 66, 1204, 1205]), ((22, 89), 1, 212, 2, [1780, 1783, 82, 1781, 1782]), ((22, 90), 1, 213, 2, [1228, 1231, 66, 1229, 1230]), ((22, 93), 1, 214, 2, [1788, 1791, 82, 1789, 1790]), ((22, 94), 1, 222, 0, [1232, 1235, 66, 1233, 1234]), ((22, 97), 1, 225, 0, [1792, 1795, 82, 1793, 1794]), ((22, 98), 1, 226, 1, [1280, 1283, 66, 1281, 1282]), ((22, 101), 1, 227, 1, [1804, 1807, 82, 1805, 1806]), ((22, 102), 1, 228, 0, [1285, 1288, 66, 1286, 1287]), ((22, 105), 1, 229, 0, [1596, 1599, 82, 1597, 1598])]
def sites : List ST := sites_0 ++ (sites_1 ++ (sites_2 ++ (sites_3 ++ (sites_4 ++ (sites_5 ++ (sites_6 ++ (sites_7 ++ (sites_8 ++ (sites_9)))))))))
def siteOK (q : ST) : Bool := match mtab[q.2.2.1]? with
  | none => false
  | some r =>
    let P := fun i => q.2.2.2.2.getD i 0
    let own := oN q.1.1
    let base := hasW (P 2) (.initialized r.1.cls) && decide ((parseMethodDescriptor r.1.desc).map (fun d => d.parameters.length) = some q.2.2.2.1) && decide (r.1.cls ≠ "java/lang/invoke/MethodHandle") && decide (r.1.cls ≠ "java/lang/invoke/VarHandle")
    match q.2.1 with
    | 0 => base && hasW (P 0) (.methodLink own q.1.2 r.1) && hasW (P 3) (.static r.1)
    | 1 => base && hasW (P 0) (.methodLink own q.1.2 r.1) && hasW (P 3) (.instanceMethod r.1) && hasW (P 4) (.selects r.1.cls r.1 r.1)
    | 2 => base && hasW (P 0) (.methodLink own q.1.2 r.1) && hasW (P 3) (.instanceMethod r.1) && decide (r.1.name = "<init>") && decide (r.2.2.2.1 = none)
    | 3 => base && hasW (P 0) (.methodLink own q.1.2 r.1) && hasW (P 3) (.instanceMethod r.1) && hasW (P 4) (.sameMethod r.1.cls r.1.cls r.1.name r.1.desc) && hasW (P 5) (.selects "java/lang/StringBuilder" r.1 r.1)
    | 4 => base && hasW (P 0) (.methodLink own q.1.2 r.1) && hasW (P 3) (.instanceMethod r.1) && hasW (P 4) (.sameMethod r.1.cls r.1.cls r.1.name r.1.desc) && hasW (P 5) (.superclass own r.1.cls) && decide (own = "java/lang/StringBuilder") && decide (r.1.name ≠ "<init>")
    | 5 => base && hasN (P 0) (.methodLinkNest own q.1.2 r.1 "PipelineSimulator") && hasW (P 3) (.static r.1)
    | 6 => base && hasN (P 0) (.methodLinkNest own q.1.2 r.1 "PipelineSimulator") && hasW (P 3) (.instanceMethod r.1) && decide (r.1.name = "<init>") && decide (r.2.2.2.1 = none)
    | 7 => base && hasW (P 0) (.methodLink own q.1.2 r.1) && hasW (P 3) (.instanceMethod r.1) && hasW (P 4) (.selects r.1.cls r.1 r.1) && decide (r.1.cls = "java/lang/String")
    | 8 => hasW (P 0) (.methodLink own q.1.2 Lib.objectInit)
    | 9 => hasW (P 0) (.methodLink own q.1.2 arraycopyName)
    | _ => false
theorem sites_0_ok : sites_0.all siteOK = true := by decide +kernel
theorem sites_1_ok : sites_1.all siteOK = true := by decide +kernel
theorem sites_2_ok : sites_2.all siteOK = true := by decide +kernel
theorem sites_3_ok : sites_3.all siteOK = true := by decide +kernel
theorem sites_4_ok : sites_4.all siteOK = true := by decide +kernel
theorem sites_5_ok : sites_5.all siteOK = true := by decide +kernel
theorem sites_6_ok : sites_6.all siteOK = true := by decide +kernel
theorem sites_7_ok : sites_7.all siteOK = true := by decide +kernel
theorem sites_8_ok : sites_8.all siteOK = true := by decide +kernel
theorem sites_9_ok : sites_9.all siteOK = true := by decide +kernel
theorem sites_ok : ∀ q ∈ sites, siteOK q = true := fun q h => (List.mem_append.mp h).elim (fun h => List.all_eq_true.mp sites_0_ok q h) ((fun q h => (List.mem_append.mp h).elim (fun h => List.all_eq_true.mp sites_1_ok q h) ((fun q h => (List.mem_append.mp h).elim (fun h => List.all_eq_true.mp sites_2_ok q h) ((fun q h => (List.mem_append.mp h).elim (fun h => List.all_eq_true.mp sites_3_ok q h) ((fun q h => (List.mem_append.mp h).elim (fun h => List.all_eq_true.mp sites_4_ok q h) ((fun q h => (List.mem_append.mp h).elim (fun h => List.all_eq_true.mp sites_5_ok q h) ((fun q h => (List.mem_append.mp h).elim (fun h => List.all_eq_true.mp sites_6_ok q h) ((fun q h => (List.mem_append.mp h).elim (fun h => List.all_eq_true.mp sites_7_ok q h) ((fun q h => (List.mem_append.mp h).elim (fun h => List.all_eq_true.mp sites_8_ok q h) ((fun q h => List.all_eq_true.mp sites_9_ok q h) q)) q)) q)) q)) q)) q)) q)) q)) q)
theorem oi_1 : Cond.instanceMethod Lib.objectInit ∈ ALL := hasW_mem (i := 98) (by decide +kernel)
theorem oi_2 : Cond.code Lib.objectInit ⟨#[0xb1]⟩ 1 none ∈ ALL := hasW_mem (i := 99) (by decide +kernel)
theorem ac_1 : Cond.native arraycopyName ∈ ALL := hasW_mem (i := 594) (by decide +kernel)
theorem ac_2 : Cond.static arraycopyName ∈ ALL := hasW_mem (i := 593) (by decide +kernel)
theorem ac_3 : Cond.initialized "java/lang/System" ∈ ALL := hasW_mem (i := 86) (by decide +kernel)
def news : List ((Nat × Nat) × Nat × Nat × Nat × Nat) := [((7, 7), 8, 285, 205, 74), ((8, 9), 2, 260, 280, 78), ((8, 17), 3, 262, 263, 77), ((8, 33), 8, 278, 205, 74), ((9, 7), 8, 396, 205, 74), ((10, 9), 9, 180, 181, 73), ((10, 18), 8, 204, 205, 74), ((10, 27), 5, 233, 255, 76), ((10, 33), 0, 235, 391, 79), ((10, 39), 4, 237, 238, 75), ((13, 7), 13, 100, 101, 68), ((13, 19), 7, 132, 133, 71), ((13, 28), 10, 174, 175, 72), ((13, 35), 6, 486, 487, 80), ((13, 44), 1, 499, 500, 81), ((22, 7), 11, 92, 93, 66), ((22, 10), 12, 1291, 1292, 82)]
def newOK (q : (Nat × Nat) × Nat × Nat × Nat × Nat) : Bool := match classes[q.2.1]? with
  | some r => hasW q.2.2.1 (.classLink (oN q.1.1) q.1.2 r.1) && hasW q.2.2.2.1 (.instantiable r.1 r.2.2) && hasW q.2.2.2.2 (.initialized r.1)
  | none => false
theorem news_ok : news.all newOK = true := by decide +kernel
def anews : List ((Nat × Nat) × Nat × Nat × Nat) := []
def akC (k : Nat) : String := match k with
  | 103 => RX0
  | 104 => RX2
  | _ => RX5
def anewOK (q : (Nat × Nat) × Nat × Nat × Nat) : Bool := hasW q.2.2.1 (.classLink (oN q.1.1) q.1.2 (akC q.2.1)) && hasX q.2.2.2 (.arrayOver (.object (akC q.2.1)))
theorem anews_ok : anews.all anewOK = true := by decide +kernel
def ldcsI : List ((Nat × Nat) × Int32 × Nat) := [((14, 147), 40000, 1297), ((16, 200), 2147483639, 574), ((0, 39), 2147483647, 578), ((13, 51), (-1000000002), 544), ((13, 56), (-1000000003), 552), ((14, 207), (-1000000002), 1550), ((14, 211), (-1000000003), 1551), ((13, 87), (-1000000004), 870), ((14, 274), (-1000000004), 1591), ((5, 13), 131071, 1042), ((13, 123), (-1000000005), 1103), ((14, 376), (-1000000005), 1723), ((13, 137), (-1000000001), 1121), ((14, 309), (-1000000001), 1604)]
theorem ldcsI_ok : ldcsI.all (fun q => hasW q.2.2 (.constant (oN q.1.1) q.1.2 q.2.1)) = true := by decide +kernel
def ldcsL : List ((Nat × Nat) × Int64 × Nat) := [((5, 36), 100, 1186), ((14, 310), 100, 1605)]
theorem ldcsL_ok : ldcsL.all (fun q => hasW q.2.2 (.constantLong (oN q.1.1) q.1.2 q.2.1)) = true := by decide +kernel
def ldcsS : List (Nat × Nat) := [(2, 65), (13, 307)]
def statN (k : Nat) : String × String × String := match k with
  | 0 => ("java/lang/String", "COMPACT_STRINGS", "Z")
  | 1 => ("jdk/internal/util/Preconditions", "SIOOBE_FORMATTER", "Ljava/util/function/BiFunction;")
  | 2 => ("java/lang/Integer", "DigitOnes", "[B")
  | _ => ("java/lang/Integer", "DigitTens", "[B")
def stats : List ((Nat × Nat) × Nat × Nat) := [((0, 18), 0, 109), ((20, 1053), 1, 622), ((20, 38), 0, 694), ((21, 83), 2, 1267), ((21, 87), 3, 1269)]
theorem stats_ok : stats.all (fun q => hasW q.2.2 (.fieldLink (oN q.1.1) q.1.2 (statN q.2.1).1 (statN q.2.1).2.1 (statN q.2.1).2.2)) = true := by decide +kernel
def sflds : List ((Nat × Nat) × Nat × Nat) := [((20, 15), 1, 1816), ((20, 9), 0, 1817)]
theorem sflds_ok : sflds.all (fun q => hasW q.2.2 (if q.2.1 = 0 then .fieldLink (oN q.1.1) q.1.2 "java/lang/String" "value" "[B" else .fieldLink (oN q.1.1) q.1.2 "java/lang/String" "coder" "B")) = true := by decide +kernel
end
section
/-! THE INTERPRETER: an abstract memory with addresses of its own; a step, a run. -/
/-- ints, longs, references, kinds, lengths, how many cells, how many slots, the script -/
abbrev Mem : Type := (Nat → Nat → Int32) × (Nat → Nat → Int64) × (Nat → Nat → Option Nat) × (Nat → Nat) × (Nat → Nat) × Nat × Nat × (Nat × (Nat → Int32))
abbrev mI (M : Mem) : Nat → Nat → Int32 := M.1
abbrev mJ (M : Mem) : Nat → Nat → Int64 := M.2.1
abbrev mR (M : Mem) : Nat → Nat → Option Nat := M.2.2.1
abbrev mK (M : Mem) : Nat → Nat := M.2.2.2.1
abbrev mL (M : Mem) : Nat → Nat := M.2.2.2.2.1
abbrev mn (M : Mem) : Nat := M.2.2.2.2.2.1
abbrev ms (M : Mem) : Nat := M.2.2.2.2.2.2.1
abbrev mX (M : Mem) : Nat × (Nat → Int32) := M.2.2.2.2.2.2.2
def u2 {α : Type} (f : Nat → Nat → α) (k j : Nat) (v : α) : Nat → Nat → α := fun a b => if a = k ∧ b = j then v else f a b
def u1 {α : Type} (f : Nat → α) (k : Nat) (v : α) : Nat → α := fun a => if a = k then v else f a
def r2 {α : Type} (f : Nat → Nat → α) (k : Nat) (g : Nat → α) : Nat → Nat → α := fun a b => if a = k then g b else f a b
def wI (M : Mem) (k j : Nat) (v : Int32) : Mem := (u2 M.1 k j v, M.2)
def wJ (M : Mem) (k j : Nat) (v : Int64) : Mem := (M.1, u2 M.2.1 k j v, M.2.2)
def wR (M : Mem) (k j : Nat) (v : Option Nat) : Mem := (M.1, M.2.1, u2 M.2.2.1 k j v, M.2.2.2)
/-- a row of ints written whole -/
def wA (M : Mem) (k : Nat) (g : Nat → Int32) : Mem := (r2 M.1 k g, M.2)
/-- a new cell of kind kd, of len places -/
def nC (M : Mem) (kd len : Nat) : Mem := (r2 M.1 M.2.2.2.2.2.1 (fun _ => 0), r2 M.2.1 M.2.2.2.2.2.1 (fun _ => 0), r2 M.2.2.1 M.2.2.2.2.2.1 (fun _ => none), u1 M.2.2.2.1 M.2.2.2.2.2.1 kd, u1 M.2.2.2.2.1 M.2.2.2.2.2.1 len, M.2.2.2.2.2.1 + 1, M.2.2.2.2.2.2.1 + len, M.2.2.2.2.2.2.2)
def cN (ci : Nat) : Nat := match classes[ci]? with
  | some r => r.2.2
  | none => 0
def cty (ci j : Nat) : Nat := ((ctab[ci]?).getD []).getD j 0
def ftyOf (ci j : Nat) : FieldType := match classes[ci]? with
  | some r => (parseFieldDescriptor (r.2.1 j).2.2.1).getD .int
  | none => .int
def ffin (ci j : Nat) : Bool := match classes[ci]? with
  | some r => (r.2.1 j).2.2.2
  | none => false
def fdecl (ci j : Nat) : String := match classes[ci]? with
  | some r => (r.2.1 j).1
  | none => ""
-- locals
def lget (L : List (Option Value)) (i : Nat) : Option Value := (L[i]?).join
def lclr (L : List (Option Value)) (i : Nat) : List (Option Value) := match i with
  | 0 => L
  | j + 1 => match lget L j with
    | some w => if w.category = 2 then L.set j none else L
    | none => L
def lset (L : List (Option Value)) (i : Nat) (v : Value) : List (Option Value) := (lclr L i).set i (some v)
def lsetL (L : List (Option Value)) (i : Nat) (v : Value) : List (Option Value) := ((lclr L i).set i (some v)).set (i + 1) none
def isRv : Value → Bool
  | .ref _ => true
  | .null => true
  | .retAddr _ => true
  | _ => false
def jmp (pc : Nat) (off : Int) : Nat := ((pc : Int) + off).toNat
def cndOf : ClassFile.Cond → Int32 → Int32 → Bool
  | .eq, x, y => decide (x = y)
  | .ne, x, y => decide (¬ x = y)
  | .lt, x, y => decide (x < y)
  | .ge, x, y => decide (y ≤ x)
  | .gt, x, y => decide (y < x)
  | .le, x, y => decide (x ≤ y)
abbrev Fr : Type := Nat × List (Option Value) × List Value × Mem
def inR (i : Int32) (n : Nat) : Bool := decide (¬ (i < 0 ∨ n ≤ i.toNatClampNeg))
def rfv (o : Option Nat) : Value := match o with
  | none => .null
  | some a => .ref a
def slotA (M : Mem) (ci a j : Nat) : Value := match cty ci j with
  | 4 => .long (mJ M a j)
  | 5 => rfv (mR M a j)
  | _ => .int (mI M a j)
def statV (k : Nat) : Value := match k with
  | 0 => .int 1
  | 1 => .retAddr 5
  | 2 => .retAddr 1
  | _ => .retAddr 2
def oldB (k : Nat) : List Int32 := match k with
  | 1 => [48, 49, 50, 51, 52, 53, 54, 55, 56, 57, 48, 49, 50, 51, 52, 53, 54, 55, 56, 57, 48, 49, 50, 51, 52, 53, 54, 55, 56, 57, 48, 49, 50, 51, 52, 53, 54, 55, 56, 57, 48, 49, 50, 51, 52, 53, 54, 55, 56, 57, 48, 49, 50, 51, 52, 53, 54, 55, 56, 57, 48, 49, 50, 51, 52, 53, 54, 55, 56, 57, 48, 49, 50, 51, 52, 53, 54, 55, 56, 57, 48, 49, 50, 51, 52, 53, 54, 55, 56, 57, 48, 49, 50, 51, 52, 53, 54, 55, 56, 57]
  | 2 => [48, 48, 48, 48, 48, 48, 48, 48, 48, 48, 49, 49, 49, 49, 49, 49, 49, 49, 49, 49, 50, 50, 50, 50, 50, 50, 50, 50, 50, 50, 51, 51, 51, 51, 51, 51, 51, 51, 51, 51, 52, 52, 52, 52, 52, 52, 52, 52, 52, 52, 53, 53, 53, 53, 53, 53, 53, 53, 53, 53, 54, 54, 54, 54, 54, 54, 54, 54, 54, 54, 55, 55, 55, 55, 55, 55, 55, 55, 55, 55, 56, 56, 56, 56, 56, 56, 56, 56, 56, 56, 57, 57, 57, 57, 57, 57, 57, 57, 57, 57]
  | _ => [109, 102, 107, 99, 115, 100, 114]
def akOf : ArrayType → Nat
  | .int => 100
  | .byte => 101
  | .boolean => 102
  | _ => 0
/-- one instruction that is no call and no return -/
def step1 (o : Nat) (ini : Bool) (i : Instr) (pc nx : Nat) (L : List (Option Value)) (st : List Value) (M : Mem) : Option Fr :=
  match i with
  | .iconst n => some (nx, L, .int (Int32.ofInt n) :: st, M)
  | .bipush n => some (nx, L, .int (Int8.ofInt n).toInt32 :: st, M)
  | .sipush n => some (nx, L, .int (Int16.ofInt n).toInt32 :: st, M)
  | .lconst n => some (nx, L, .long (Int64.ofNat n) :: st, M)
  | .aconst_null => some (nx, L, .null :: st, M)
  | .ldc k => match ldcsI.lookup (o, k) with
    | some v => some (nx, L, .int v.1 :: st, M)
    | none => if ldcsS.contains (o, k) then some (nx, L, .retAddr 3 :: st, M) else none
  | .ldc_w k => match ldcsI.lookup (o, k) with
    | some v => some (nx, L, .int v.1 :: st, M)
    | none => none
  | .ldc2_w k => match ldcsL.lookup (o, k) with
    | some v => some (nx, L, .long v.1 :: st, M)
    | none => none
  | .iload_n k => match lget L k with
    | some (.int x) => some (nx, L, .int x :: st, M)
    | _ => none
  | .iload k => match lget L k with
    | some (.int x) => some (nx, L, .int x :: st, M)
    | _ => none
  | .lload_n k => match lget L k with
    | some (.long x) => some (nx, L, .long x :: st, M)
    | _ => none
  | .lload k => match lget L k with
    | some (.long x) => some (nx, L, .long x :: st, M)
    | _ => none
  | .aload_n k => match lget L k with
    | some v => if isRv v then some (nx, L, v :: st, M) else none
    | _ => none
  | .aload k => match lget L k with
    | some v => if isRv v then some (nx, L, v :: st, M) else none
    | _ => none
  | .istore_n k => match st with
    | .int x :: st => if (k : Nat) < L.length then some (nx, lset L k (.int x), st, M) else none
    | _ => none
  | .istore k => match st with
    | .int x :: st => if k < L.length then some (nx, lset L k (.int x), st, M) else none
    | _ => none
  | .lstore_n k => match st with
    | .long x :: st => if (k : Nat) + 1 < L.length then some (nx, lsetL L k (.long x), st, M) else none
    | _ => none
  | .lstore k => match st with
    | .long x :: st => if k + 1 < L.length then some (nx, lsetL L k (.long x), st, M) else none
    | _ => none
  | .astore_n k => match st with
    | v :: st => if isRv v && decide ((k : Nat) < L.length) then some (nx, lset L k v, st, M) else none
    | _ => none
  | .astore k => match st with
    | v :: st => if isRv v && decide (k < L.length) then some (nx, lset L k v, st, M) else none
    | _ => none
  | .iinc k n => match lget L k with
    | some (.int x) => if k < L.length ∧ nx = pc + 3 then some (nx, lset L k (.int (x + Int32.ofInt n)), st, M) else none
    | _ => none
  | .iadd => match st with
    | .int y :: .int x :: st => some (nx, L, .int (x + y) :: st, M)
    | _ => none
  | .isub => match st with
    | .int y :: .int x :: st => some (nx, L, .int (x - y) :: st, M)
    | _ => none
  | .imul => match st with
    | .int y :: .int x :: st => some (nx, L, .int (x * y) :: st, M)
    | _ => none
  | .idiv => match st with
    | .int y :: .int x :: st => if y = 0 then none else some (nx, L, .int (x / y) :: st, M)
    | _ => none
  | .irem => match st with
    | .int y :: .int x :: st => if y = 0 then none else some (nx, L, .int (x - x / y * y) :: st, M)
    | _ => none
  | .ineg => match st with
    | .int x :: st => some (nx, L, .int (-x) :: st, M)
    | _ => none
  | .ishl => match st with
    | .int y :: .int x :: st => some (nx, L, .int (x <<< (y &&& 31)) :: st, M)
    | _ => none
  | .ishr => match st with
    | .int y :: .int x :: st => some (nx, L, .int (x >>> (y &&& 31)) :: st, M)
    | _ => none
  | .iushr => match st with
    | .int y :: .int x :: st => some (nx, L, .int (x.toUInt32 >>> (y.toUInt32 &&& Int32.toUInt32 31)).toInt32 :: st, M)
    | _ => none
  | .iand => match st with
    | .int y :: .int x :: st => some (nx, L, .int (x &&& y) :: st, M)
    | _ => none
  | .ior => match st with
    | .int y :: .int x :: st => some (nx, L, .int (x ||| y) :: st, M)
    | _ => none
  | .ixor => match st with
    | .int y :: .int x :: st => some (nx, L, .int (x ^^^ y) :: st, M)
    | _ => none
  | .ladd => match st with
    | .long y :: .long x :: st => some (nx, L, .long (x + y) :: st, M)
    | _ => none
  | .lmul => match st with
    | .long y :: .long x :: st => some (nx, L, .long (x * y) :: st, M)
    | _ => none
  | .lcmp => match st with
    | .long y :: .long x :: st => some (nx, L, .int (lg_cmp x y) :: st, M)
    | _ => none
  | .i2l => match st with
    | .int x :: st => some (nx, L, .long x.toInt64 :: st, M)
    | _ => none
  | .l2i => match st with
    | .long x :: st => some (nx, L, .int x.toInt32 :: st, M)
    | _ => none
  | .i2b => match st with
    | .int x :: st => some (nx, L, .int x.toInt8.toInt32 :: st, M)
    | _ => none
  | .i2c => match st with
    | .int x :: st => some (nx, L, .int (x.toUInt32 % 65536).toInt32 :: st, M)
    | _ => none
  | .dup => match st with
    | v :: st => if v.category = 1 then some (nx, L, v :: v :: st, M) else none
    | _ => none
  | .dup_x1 => match st with
    | v :: w :: st => if v.category = 1 ∧ w.category = 1 then some (nx, L, v :: w :: v :: st, M) else none
    | _ => none
  | .dup2 => match st with
    | v :: w :: st => if v.category = 1 ∧ w.category = 1 then some (nx, L, v :: w :: v :: w :: st, M) else none
    | _ => none
  | .pop => match st with
    | v :: st => if v.category = 1 then some (nx, L, st, M) else none
    | _ => none
  | .goto off => if 0 ≤ (pc : Int) + off then some (jmp pc off, L, st, M) else none
  | .ifCond c off => match st with
    | .int x :: st => if 0 ≤ (pc : Int) + off then (if cndOf c x 0 then some (jmp pc off, L, st, M) else some (nx, L, st, M)) else none
    | _ => none
  | .if_icmp c off => match st with
    | .int y :: .int x :: st => if 0 ≤ (pc : Int) + off then (if cndOf c x y then some (jmp pc off, L, st, M) else some (nx, L, st, M)) else none
    | _ => none
  | .ifnull off => match st with
    | .null :: st => if 0 ≤ (pc : Int) + off then some (jmp pc off, L, st, M) else none
    | .ref _ :: st => some (nx, L, st, M)
    | _ => none
  | .ifnonnull off => match st with
    | .null :: st => some (nx, L, st, M)
    | .ref _ :: st => if 0 ≤ (pc : Int) + off then some (jmp pc off, L, st, M) else none
    | _ => none
  | .tableswitch dflt lo hi offs => match st with
    | .int x :: st => if x.toInt < lo ∨ hi < x.toInt then (if 0 ≤ (pc : Int) + dflt then some (jmp pc dflt, L, st, M) else none)
      else match offs[(x.toInt - lo).toNat]? with
        | some off => if 0 ≤ (pc : Int) + off then some (jmp pc off, L, st, M) else none
        | none => none
    | _ => none
  | .lookupswitch dflt ps => match st with
    | .int x :: st => if (ps.toList.zip (ps.toList.drop 1)).all (fun (a, next) => a.1 < next.1) = true ∧ 0 ≤ (pc : Int) + Op.lookupswitch.offset ps.toList dflt x.toInt then some (jmp pc (Op.lookupswitch.offset ps.toList dflt x.toInt), L, st, M) else none
    | _ => none
  | .getfield k => match st with
    | .ref a :: st => match flds.lookup (o, k) with
      | some f => if mK M a = f.1 + 1 then some (nx, L, slotA M f.1 a f.2.1 :: st, M) else none
      | none => none
    | .retAddr 3 :: st => match sflds.lookup (o, k) with
      | some f => some (nx, L, (if f.1 = 0 then .retAddr 4 else .int 0) :: st, M)
      | none => none
    | _ => none
  | .putfield k => match st with
    | v :: .ref a :: st => match flds.lookup (o, k) with
      | some f => if mK M a = f.1 + 1 ∧ (ffin f.1 f.2.1 = false ∨ (ini = true ∧ f.2.2.1 = 0 ∧ fdecl f.1 f.2.1 = oN o)) then (match cty f.1 f.2.1, v with
          | 0, .int x => some (nx, L, st, wI M a f.2.1 x)
          | 1, .int x => if vp_nar .boolean x = x ∧ fits .boolean (.int x) = true then some (nx, L, st, wI M a f.2.1 x) else none
          | 2, .int x => if vp_nar .byte x = x ∧ fits .byte (.int x) = true then some (nx, L, st, wI M a f.2.1 x) else none
          | 4, .long x => some (nx, L, st, wJ M a f.2.1 x)
          | 5, .ref b => some (nx, L, st, wR M a f.2.1 (some b))
          | _, _ => none) else none
      | none => none
    | _ => none
  | .getstatic k => match stats.lookup (o, k) with
    | some f => some (nx, L, statV f.1 :: st, M)
    | none => none
  | .iaload => match st with
    | .int j :: .ref a :: st => if mK M a = 100 ∧ inR j (mL M a) = true then some (nx, L, .int (mI M a j.toNatClampNeg) :: st, M) else none
    | .int j :: .retAddr 0 :: st => if inR j (mX M).1 = true then some (nx, L, .int ((mX M).2 j.toNatClampNeg) :: st, M) else none
    | _ => none
  | .iastore => match st with
    | .int x :: .int j :: .ref a :: st => if mK M a = 100 ∧ inR j (mL M a) = true then some (nx, L, st, wI M a j.toNatClampNeg x) else none
    | _ => none
  | .baload => match st with
    | .int j :: .ref a :: st => if (mK M a = 101 ∨ mK M a = 102) ∧ inR j (mL M a) = true then some (nx, L, .int (mI M a j.toNatClampNeg) :: st, M) else none
    | .int j :: .retAddr k :: st => if (k = 1 ∨ k = 2 ∨ k = 4) ∧ inR j (oldB k).length = true then some (nx, L, .int ((oldB k).getD j.toNatClampNeg 0) :: st, M) else none
    | _ => none
  | .bastore => match st with
    | .int x :: .int j :: .ref a :: st => if inR j (mL M a) = true then (if mK M a = 101 then some (nx, L, st, wI M a j.toNatClampNeg (vp_nar .byte x)) else if mK M a = 102 then some (nx, L, st, wI M a j.toNatClampNeg (vp_nar .boolean x)) else none) else none
    | _ => none
  | .aaload => match st with
    | .int j :: .ref a :: st => if (mK M a = 103 ∨ mK M a = 104 ∨ mK M a = 105) ∧ inR j (mL M a) = true then some (nx, L, rfv (mR M a j.toNatClampNeg) :: st, M) else none
    | _ => none
  | .aastore => match st with
    | .ref b :: .int j :: .ref a :: st => if ((mK M a = 103 ∧ mK M b = 1) ∨ (mK M a = 104 ∧ mK M b = 3) ∨ (mK M a = 105 ∧ mK M b = 6)) ∧ inR j (mL M a) = true then some (nx, L, st, wR M a j.toNatClampNeg (some b)) else none
    | _ => none
  | .arraylength => match st with
    | .ref a :: st => if 100 ≤ mK M a ∧ mK M a < 106 then some (nx, L, .int (Int32.ofNat (mL M a)) :: st, M) else none
    | .retAddr k :: st => if k = 0 then some (nx, L, .int (Int32.ofNat (mX M).1) :: st, M) else if k = 4 then some (nx, L, .int 7 :: st, M) else none
    | _ => none
  | .new k => match news.lookup (o, k) with
    | some f => some (nx, L, .ref (mn M) :: st, nC M (f.1 + 1) (cN f.1))
    | none => none
  | .newarray t => match st with
    | .int x :: st => if ¬ x < 0 ∧ x.toNatClampNeg ≤ 1000000 ∧ (akOf t) ≠ 0 then some (nx, L, .ref (mn M) :: st, nC M (akOf t) x.toNatClampNeg) else none
    | _ => none
  | .anewarray k => match st with
    | .int x :: st => match anews.lookup (o, k) with
      | some f => if ¬ x < 0 ∧ x.toNatClampNeg ≤ 1000000 then some (nx, L, .ref (mn M) :: st, nC M f.1 x.toNatClampNeg) else none
      | none => none
    | _ => none
  | _ => none
def naOf (mode n : Nat) : Nat := match mode with
  | 0 => n
  | 5 => n
  | _ => n + 1
def cat1s (vs : List Value) : Bool := vs.all (fun v => decide (v.category = 1))
/-- the receiver that a call of this kind wants -/
def rcvOK (mode ti : Nat) (M : Mem) (as : List Value) : Bool := match mode, as with
  | 0, _ => true
  | 5, _ => true
  | 1, .ref b :: _ => match mtabL[ti]? with
    | some q => match classes[mK M b - 1]? with
      | some r => decide (r.1 = q.1.cls ∧ mK M b ≠ 0)
      | none => false
    | none => false
  | 2, .ref _ :: _ => true
  | 6, .ref _ :: _ => true
  | 3, .ref b :: _ => decide (mK M b = 14)
  | 4, .ref b :: _ => decide (mK M b = 14)
  | 7, .retAddr 3 :: _ => true
  | _, _ => false
def retOK (t : Option FieldType) (i : Instr) (st : List Value) : Option (Option Value) := match i, t, st with
  | .return_, none, [] => some none
  | .ireturn, some t, [.int x] => if t = .int ∨ ((t = .boolean ∨ t = .char ∨ t = .byte) ∧ narrow t (.int x) = .int x) then some (some (.int x)) else none
  | .areturn, some (.object _), [v] => match v with
    | .ref a => some (some (.ref a))
    | .null => some (some .null)
    | _ => none
  | .areturn, some (.array _), [v] => match v with
    | .ref a => some (some (.ref a))
    | .null => some (some .null)
    | _ => none
  | _, _, _ => none
def isRet : Instr → Bool
  | .return_ => true
  | .ireturn => true
  | .areturn => true
  | _ => false
def invIx : Instr → Option Nat
  | .invokevirtual k => some k
  | .invokespecial k => some k
  | .invokestatic k => some k
  | _ => none
/-- which instruction a call of this kind is -/
def modeI (mode : Nat) (i : Instr) : Bool := match mode, i with
  | 0, .invokestatic _ => true
  | 5, .invokestatic _ => true
  | 9, .invokestatic _ => true
  | 1, .invokevirtual _ => true
  | 3, .invokevirtual _ => true
  | 7, .invokevirtual _ => true
  | 2, .invokespecial _ => true
  | 4, .invokespecial _ => true
  | 6, .invokespecial _ => true
  | 8, .invokespecial _ => true
  | _, _ => false
def catS (vs : List Value) : Nat := (vs.map fun v => v.category).sum
def entL (mL : Nat) (as : List Value) : List (Option Value) := as.map some ++ List.replicate (mL - as.length) none
/-- a run: of method mi from pc on, d levels deep at most, to its return -/
def ev : Nat → Nat → Nat → Nat → List (Option Value) → List Value → Mem → Option (Option Value × Mem)
  | 0, _, _, _, _, _, _ => none
  | n + 1, d, mi, pc, L, st, M =>
    match mtabL[mi]? with
    | none => none
    | some q =>
      match q.2.2.2.2.2.lookup pc with
      | none => none
      | some (i, nx) =>
        if isRet i then (retOK q.2.2.2.1 i st).map (fun v => (v, M)) else
        match invIx i with
        | some k =>
          match sites.lookup (q.2.2.2.2.1, k) with
          | none => none
          | some S =>
            if modeI S.1 i = false ∨ d = 0 then none else
            if S.1 = 8 then
              match st with
              | .ref _ :: rest => if catS rest ≤ 8 then ev n d mi nx L rest M else none
              | _ => none
            else if S.1 = 9 then
              match st with
              | .int w :: .int dp :: .ref b :: .int sp :: .ref a :: rest => if (mK M a = 100 ∨ mK M a = 101) ∧ mK M b = mK M a ∧ ¬ sp < 0 ∧ ¬ dp < 0 ∧ ¬ w < 0 ∧ sp.toNatClampNeg + w.toNatClampNeg ≤ mL M a ∧ dp.toNatClampNeg + w.toNatClampNeg ≤ mL M b ∧ catS rest ≤ 8 then
                  ev n d mi nx L rest (wA M b (va_cpy (mI M a) (mI M b) sp.toNatClampNeg dp.toNatClampNeg w.toNatClampNeg)) else none
              | _ => none
            else
              let na := naOf S.1 S.2.2.1
              let as := (st.take na).reverse
              let rest := st.drop na
              if na ≤ st.length ∧ cat1s as = true ∧ catS rest ≤ 8 ∧ rcvOK S.1 S.2.1 M as = true then
                match mtab[S.2.1]? with
                | none => none
                | some t =>
                  if t.2.2.1 < as.length then none else
                  match ev n (d - 1) S.2.1 0 (entL t.2.2.1 as) [] M with
                  | none => none
                  | some (v, M1) => ev n d mi nx L (v.toList ++ rest) M1
              else none
        | none => match step1 q.2.2.2.2.1 (decide (q.1.name = "<init>")) i pc nx L st M with
          | none => none
          | some f => ev n d mi f.1 f.2.1 f.2.2.1 f.2.2.2
/-- there is such a run -/
def EV (d mi pc : Nat) (L : List (Option Value)) (st : List Value) (M : Mem) (r : Option Value × Mem) : Prop := ∃ n, ev n d mi pc L st M = some r
end
section
/-! THE WORLD: what the heap holds of an abstract memory -/
/-- the first own cell, the classes' numbers, the array classes, the old values -/
abbrev Wp : Type := Nat × va_G × (Nat → ClassId) × (Nat → Value)
abbrev wA0 (w : Wp) : Nat → Prop := fun q => w.1 ≤ q
def cv (w : Wp) : Value → Value
  | .ref k => .ref (w.1 + k)
  | .retAddr k => w.2.2.2 k
  | v => v
def rfb (b : Nat) (o : Option Nat) : Option Nat := o.map (fun a => b + a)
def slotV (w : Wp) (M : Mem) (ci k j : Nat) : Value := match cty ci j with
  | 4 => .long (mJ M k j)
  | 5 => va_rf (rfb w.1 (mR M k j))
  | _ => .int (mI M k j)
def ent (w : Wp) (M : Mem) (k : Nat) : va_E :=
  if 103 ≤ mK M k then .inl (w.2.2.1 (mK M k), mL M k, .inr (.inr (.inr (.inr (fun j => rfb w.1 (mR M k j)))))) else
  if 100 ≤ mK M k then .inl (w.2.2.1 (mK M k), mL M k, .inl (mI M k)) else
  .inr (mK M k - 1, (List.range (cN (mK M k - 1))).map (fun j => slotV w M (mK M k - 1) k j))
def wsM (w : Wp) (M : Mem) : va_W := (List.range (mn M)).map (fun k => (w.1 + k, ent w M k))
def tysW (w : Wp) : List (ClassId × FieldType) := [(w.2.2.1 100, .int), (w.2.2.1 101, .byte), (w.2.2.1 102, .boolean), (w.2.2.1 103, .object RX0), (w.2.2.1 104, .object RX2), (w.2.2.1 105, .object RX5)]
def Hp (w : Wp) (M : Mem) (H0 H : Heap) (locs : List Loc) : Prop := va_P w.2.1 classes (wsM w M) H ∧ va_D (wA0 w) (wsM w M) ∧ va_S (wA0 w) H0 H locs ∧ (∀ k, mK M k ≠ 0 → k < mn M) ∧ (∀ k j, mK M k = 101 → fits .byte (.int (mI M k j)) = true)
theorem wsM_get {w : Wp} {M : Mem} {k : Nat} (h : k < mn M) : (wsM w M)[k]? = some (w.1 + k, ent w M k) := by
  unfold wsM
  rw [List.getElem?_map, List.getElem?_range h]
  rfl
theorem wsM_len {w : Wp} {M : Mem} : (wsM w M).length = mn M := by unfold wsM; rw [List.length_map, List.length_range]
theorem wsM_set {w : Wp} {M M' : Mem} {k : Nat} {e : va_E} (hn : mn M' = mn M) (he : ent w M' k = e) (ho : ∀ j, j ≠ k → ent w M' j = ent w M j) : (wsM w M).set k (w.1 + k, e) = wsM w M' := by
  apply List.ext_getElem?
  intro i
  by_cases hi : i < mn M
  · rw [wsM_get (M := M') (by omega)]
    by_cases hk : i = k
    · subst hk
      rw [List.getElem?_set_self (by rw [wsM_len]; exact hi), he]
    · rw [List.getElem?_set_ne (Ne.symm hk), wsM_get hi, ho i hk]
  · rw [List.getElem?_eq_none (by rw [List.length_set, wsM_len]; omega), List.getElem?_eq_none (by rw [wsM_len]; omega)]
theorem wsM_push {w : Wp} {M M' : Mem} {e : va_E} (hn : mn M' = mn M + 1) (he : ent w M' (mn M) = e) (ho : ∀ j, j < mn M → ent w M' j = ent w M j) : wsM w M ++ [(w.1 + mn M, e)] = wsM w M' := by
  unfold wsM
  rw [hn, List.range_succ, List.map_append]
  congr 1
  · apply List.map_congr_left
    intro j hj
    rw [ho j (List.mem_range.mp hj)]
  · simp [he]
theorem ent_wI_ne {w : Wp} {M : Mem} {a j k : Nat} {x : Int32} (h : k ≠ a) : ent w (wI M a j x) k = ent w M k := by
  have h1 : ∀ b, mI (wI M a j x) k b = mI M k b := fun b => if_neg (fun z => h z.1)
  have h2 : mI (wI M a j x) k = mI M k := funext h1
  unfold ent slotV
  rw [h2]
  rfl
theorem ent_wJ_ne {w : Wp} {M : Mem} {a j k : Nat} {x : Int64} (h : k ≠ a) : ent w (wJ M a j x) k = ent w M k := by
  have h2 : mJ (wJ M a j x) k = mJ M k := funext fun b => if_neg (fun z => h z.1)
  unfold ent slotV
  rw [h2]
  rfl
theorem ent_wR_ne {w : Wp} {M : Mem} {a j k : Nat} {x : Option Nat} (h : k ≠ a) : ent w (wR M a j x) k = ent w M k := by
  have h2 : mR (wR M a j x) k = mR M k := funext fun b => if_neg (fun z => h z.1)
  unfold ent slotV
  rw [h2]
  rfl
theorem ent_wA_ne {w : Wp} {M : Mem} {a k : Nat} {g : Nat → Int32} (h : k ≠ a) : ent w (wA M a g) k = ent w M k := by
  have h2 : mI (wA M a g) k = mI M k := funext fun b => if_neg h
  unfold ent slotV
  rw [h2]
  rfl
theorem ent_nC_ne {w : Wp} {M : Mem} {kd len k : Nat} (h : k < mn M) : ent w (nC M kd len) k = ent w M k := by
  have hk : k ≠ M.2.2.2.2.2.1 := Nat.ne_of_lt h
  have h1 : mI (nC M kd len) k = mI M k := funext fun b => if_neg hk
  have h2 : mJ (nC M kd len) k = mJ M k := funext fun b => if_neg hk
  have h3 : mR (nC M kd len) k = mR M k := funext fun b => if_neg hk
  have h4 : mK (nC M kd len) k = mK M k := if_neg hk
  have h5 : mL (nC M kd len) k = mL M k := if_neg hk
  unfold ent slotV
  rw [h1, h2, h3, h4, h5]
/-- what was there before: the script, statics, the text constant, the nest's links -/
def Old (w : Wp) (X : Nat × (Nat → Int32)) (U : State) (H : Heap) : Prop :=
  (∃ b, w.2.2.2 0 = .ref b ∧ b < w.1 ∧ b < H.size ∧ va_X b X.1 X.2 U H) ∧
  (∃ t, w.2.2.2 1 = .ref t ∧ va_Z "java/lang/Integer" "DigitOnes" "[B" (.ref t) (wA0 w) U H ∧ va_T .byte t 100 (fun j => .int ((oldB 1).getD j 0)) (wA0 w) U H) ∧
  (∃ t, w.2.2.2 2 = .ref t ∧ va_Z "java/lang/Integer" "DigitTens" "[B" (.ref t) (wA0 w) U H ∧ va_T .byte t 100 (fun j => .int ((oldB 2).getD j 0)) (wA0 w) U H) ∧
  va_Z "java/lang/String" "COMPACT_STRINGS" "Z" (.int 1) (wA0 w) U H ∧
  (∃ v, w.2.2.2 5 = v ∧ (v = .null ∨ ∃ t, v = .ref t) ∧ va_Z "jdk/internal/util/Preconditions" "SIOOBE_FORMATTER" "Ljava/util/function/BiFunction;" v (wA0 w) U H) ∧
  (∃ k v, w.2.2.2 3 = .ref k ∧ w.2.2.2 4 = .ref v ∧ va_O "java/lang/String" k (wA0 w) U H ∧ va_OF "java/lang/String" "coder" "B" (.int 0) k (wA0 w) U H ∧ va_OF "java/lang/String" "value" "[B" (.ref v) k (wA0 w) U H ∧ va_T .byte v 7 (fun j => .int ((oldB 4).getD j 0)) (wA0 w) U H ∧ ∀ q ∈ ldcsS, vk_R (oN q.1) q.2 "mfkcsdr" k U) ∧
  (∀ x ∈ NEST, va_Nw x U) ∧ (va_AO RX0 U ∧ va_AO RX2 U ∧ va_AO RX5 U)
theorem va_X_at {b L : Nat} {xs : Nat → Int32} {U : State} {H H1 : Heap} (h : va_X b L xs U H) (hq : H1[b]? = H[b]?) : va_X b L xs U H1 := h.kept hq
theorem nest_warm {x : Cond} (hx : x ∈ NEST) {s U : State} (hW : s.WarmedH U.vm) (h : va_Nw x s) : va_Nw x U := by
  have h1 := (List.mem_filter.mp hx).2
  cases x <;> first | exact va_Nw.warmF hW h | exact va_Nw.warmM hW h | cases h1
theorem nest_on {x : Cond} (hx : x ∈ NEST) : x.onTables = true := by
  have h1 := (List.mem_filter.mp hx).2
  cases x <;> first | rfl | cases h1
/-- moved to a warmer state, over a heap in which the old cells are the same -/
theorem Old.warm {w : Wp} {X : Nat × (Nat → Int32)} {s U : State} {H H1 : Heap} (h : Old w X s H) (hW : s.WarmedH U.vm) (hz : H.size ≤ H1.size) (hq : ∀ a : Nat, a < H.size → ¬ wA0 w a → H1[a]? = H[a]?) : Old w X U H1 := by
  obtain ⟨⟨b, a1, a2, a3, a4⟩, ⟨t1, b1, b2, b3⟩, ⟨t2, c1, c2, c3⟩, d1, ⟨v, e1, e2, e3⟩, ⟨k, v2, f1, f2, f3, f4, f5, f6, f7⟩, g, i1, i2, i3⟩ := h
  have hv := hW.alike
  refine ⟨⟨b, a1, a2, Nat.lt_of_lt_of_le a3 hz, (a4.moved hv).kept (hq b a3 (Nat.not_le.mpr a2))⟩, ⟨t1, b1, (b2.moved hv).kept hq, (b3.moved hv).kept hq⟩, ⟨t2, c1, (c2.moved hv).kept hq, (c3.moved hv).kept hq⟩, (d1.moved hv).kept hq, ⟨v, e1, e2, (e3.moved hv).kept hq⟩, ⟨k, v2, f1, f2, (f3.moved hv).kept hq, (f4.moved hv).kept hq, (f5.moved hv).kept hq, (f6.moved hv).kept hq, fun q hm => (f7 q hm).warm hW⟩, fun x hx => nest_warm hx hW (g x hx), i1.moved hv, i2.moved hv, i3.moved hv⟩
theorem Old.same {w : Wp} {X : Nat × (Nat → Int32)} {s U : State} {H : Heap} (h : Old w X s H) (hv : U.vm = s.vm) : Old w X U H := by
  obtain ⟨⟨b, a1, a2, a3, a4⟩, ⟨t1, b1, b2, b3⟩, ⟨t2, c1, c2, c3⟩, d1, ⟨v, e1, e2, e3⟩, ⟨k, v2, f1, f2, f3, f4, f5, f6, f7⟩, g, i1, i2, i3⟩ := h
  have hA : s.vm.Alike U.vm := by rw [hv]; exact Vm.Alike.refl s.vm
  exact ⟨⟨b, a1, a2, a3, a4.moved hA⟩, ⟨t1, b1, b2.moved hA, b3.moved hA⟩, ⟨t2, c1, c2.moved hA, c3.moved hA⟩, d1.moved hA, ⟨v, e1, e2, e3.moved hA⟩, ⟨k, v2, f1, f2, f3.moved hA, f4.moved hA, f5.moved hA, f6.moved hA, fun q hm => (f7 q hm).same hv⟩, fun x hx => (g x hx).same (nest_on hx) hv.symm, i1.moved hA, i2.moved hA, i3.moved hA⟩
-- locals
def lvh (w : Wp) (ls : Array Slot) (nL : Nat) (L : List (Option Value)) : Prop := ls.size = nL ∧ lv_wf ls ∧ L.length = nL ∧ ∀ (i : Nat) (v : Value), lget L i = some v → ls[i]? = some (.val (cv w v))
def asc (w : Wp) (L : List (Option Value)) : List (Nat × Value) := (List.range L.length).filterMap (fun i => (lget L i).map (fun v => (i, cv w v)))
theorem lget_lt {L : List (Option Value)} {i : Nat} {v : Value} (h : lget L i = some v) : i < L.length := by
  unfold lget at h
  rcases Nat.lt_or_ge i L.length with q | q
  · exact q
  · rw [List.getElem?_eq_none q] at h; cases h
theorem asc_mem {w : Wp} {L : List (Option Value)} {i : Nat} {v : Value} (h : lget L i = some v) : (i, cv w v) ∈ asc w L := by
  refine List.mem_filterMap.mpr ⟨i, List.mem_range.mpr (lget_lt h), ?_⟩
  rw [h]; rfl
theorem lvh_has {w : Wp} {ls : Array Slot} {nL : Nat} {L : List (Option Value)} (h : lvh w ls nL L) : lv_has ls nL (asc w L) := by
  refine ⟨h.1, h.2.1, fun q hq => ?_⟩
  obtain ⟨i, -, hi⟩ := List.mem_filterMap.mp hq
  cases hv : lget L i with
  | none => rw [hv] at hi; cases hi
  | some v =>
    rw [hv] at hi
    cases hi
    exact h.2.2.2 i v hv
theorem lget_set {L : List (Option Value)} {i j : Nat} {o : Option Value} : lget (L.set i o) j = if j = i ∧ i < L.length then o else lget L j := by
  unfold lget
  by_cases h : i = j
  · subst h
    by_cases hl : i < L.length
    · rw [List.getElem?_set_self hl, if_pos ⟨rfl, hl⟩]; rfl
    · rw [if_neg (fun z => hl z.2), List.getElem?_eq_none (by rw [List.length_set]; omega), List.getElem?_eq_none (by omega)]
  · rw [List.getElem?_set_ne h, if_neg (fun z => h z.1.symm)]
theorem lclr_len {L : List (Option Value)} {i : Nat} : (lclr L i).length = L.length := by
  unfold lclr
  cases i with
  | zero => rfl
  | succ j =>
    dsimp only
    cases lget L j with
    | none => rfl
    | some v =>
      dsimp only
      split
      · rw [List.length_set]
      · rfl
theorem lclr_get {L : List (Option Value)} {i j : Nat} {v : Value} (h : lget (lclr L i) j = some v) : lget L j = some v ∧ ¬ (j + 1 = i ∧ v.category = 2) := by
  unfold lclr at h
  cases i with
  | zero => exact ⟨h, fun z => by omega⟩
  | succ k =>
    dsimp only at h
    cases hk : lget L k with
    | none =>
      rw [hk] at h
      refine ⟨h, fun z => ?_⟩
      obtain rfl : j = k := by omega
      rw [hk] at h; cases h
    | some u =>
      rw [hk] at h
      dsimp only at h
      split at h
      · rename_i hc
        rw [lget_set] at h
        split at h
        · cases h
        · rename_i hn
          refine ⟨h, fun z => hn ⟨by omega, lget_lt hk⟩⟩
      · rename_i hc
        refine ⟨h, fun z => ?_⟩
        obtain rfl : j = k := by omega
        rw [hk] at h; cases h
        exact hc z.2
theorem cv_cat {w : Wp} (ho : ∀ k, (w.2.2.2 k).category = 1) (v : Value) : (cv w v).category = v.category := by
  cases v <;> first | rfl | exact ho _
theorem lvh_set {w : Wp} (ho : ∀ k, (w.2.2.2 k).category = 1) {ls ls' : Array Slot} {nL : Nat} {L : List (Option Value)} {i : Nat} {v : Value} (h : lvh w ls nL L) (hi : i < nL) (h2 : lv_has ls' nL ((i, cv w v) :: (asc w L).filter (fun q => !(q.1 == i) && !(q.1 + 1 == i && q.2.category == 2)))) : lvh w ls' nL (lset L i v) := by
  refine ⟨h2.1, h2.2.1, by unfold lset; rw [List.length_set, lclr_len]; exact h.2.2.1, fun j u hj => ?_⟩
  unfold lset at hj
  rw [lget_set] at hj
  split at hj
  · rename_i hc
    cases hj
    rw [hc.1]
    exact h2.2.2 _ List.mem_cons_self
  · rename_i hc
    obtain ⟨h3, h4⟩ := lclr_get hj
    have hji : j ≠ i := fun z => hc ⟨z, by rw [lclr_len, h.2.2.1]; exact hi⟩
    refine h2.2.2 (j, cv w u) (List.mem_cons_of_mem _ (List.mem_filter.mpr ⟨asc_mem h3, ?_⟩))
    simp only [Bool.and_eq_true, Bool.not_eq_true', beq_eq_false_iff_ne, ne_eq, Bool.and_eq_false_iff]
    refine ⟨hji, ?_⟩
    by_cases hq : j + 1 = i
    · exact Or.inr (fun z => h4 ⟨hq, by rw [cv_cat ho] at z; exact z⟩)
    · exact Or.inl hq
theorem lvh_setL {w : Wp} (ho : ∀ k, (w.2.2.2 k).category = 1) {ls ls' : Array Slot} {nL : Nat} {L : List (Option Value)} {i : Nat} {v : Value} (h : lvh w ls nL L) (hi : i + 1 < nL) (h2 : lv_has ls' nL ((i, cv w v) :: (asc w L).filter (fun q => !(q.1 == i) && (!(q.1 == i + 1) && !(q.1 + 1 == i && q.2.category == 2))))) : lvh w ls' nL (lsetL L i v) := by
  refine ⟨h2.1, h2.2.1, by unfold lsetL; rw [List.length_set, List.length_set, lclr_len]; exact h.2.2.1, fun j u hj => ?_⟩
  unfold lsetL at hj
  rw [lget_set] at hj
  split at hj
  · cases hj
  · rename_i hc1
    rw [lget_set] at hj
    split at hj
    · rename_i hc
      cases hj
      rw [hc.1]
      exact h2.2.2 _ List.mem_cons_self
    · rename_i hc
      obtain ⟨h3, h4⟩ := lclr_get hj
      have hji : j ≠ i := fun z => hc ⟨z, by rw [lclr_len, h.2.2.1]; omega⟩
      have hji1 : j ≠ i + 1 := fun z => hc1 ⟨z, by rw [List.length_set, lclr_len, h.2.2.1]; exact hi⟩
      refine h2.2.2 (j, cv w u) (List.mem_cons_of_mem _ (List.mem_filter.mpr ⟨asc_mem h3, ?_⟩))
      simp only [Bool.and_eq_true, Bool.not_eq_true', beq_eq_false_iff_ne, ne_eq, Bool.and_eq_false_iff]
      refine ⟨hji, hji1, ?_⟩
      by_cases hq : j + 1 = i
      · exact Or.inr (fun z => h4 ⟨hq, by rw [cv_cat ho] at z; exact z⟩)
      · exact Or.inl hq
end
section
/-! ONE STEP of the interpreter is a step of the machine -/
def ilen : Instr → Nat
  | .bipush _ => 2
  | .ldc _ => 2
  | .iload _ => 2
  | .lload _ => 2
  | .aload _ => 2
  | .istore _ => 2
  | .lstore _ => 2
  | .astore _ => 2
  | .newarray _ => 2
  | .sipush _ => 3
  | .ldc_w _ => 3
  | .ldc2_w _ => 3
  | .iinc _ _ => 3
  | .ifCond _ _ => 3
  | .if_icmp _ _ => 3
  | .if_acmp _ _ => 3
  | .ifnull _ => 3
  | .ifnonnull _ => 3
  | .goto _ => 3
  | .getfield _ => 3
  | .putfield _ => 3
  | .getstatic _ => 3
  | .putstatic _ => 3
  | .new _ => 3
  | .anewarray _ => 3
  | .checkcast _ => 3
  | .instanceof _ => 3
  | .invokevirtual _ => 3
  | .invokespecial _ => 3
  | .invokestatic _ => 3
  | _ => 1
def isSw : Instr → Bool
  | .tableswitch .. => true
  | .lookupswitch .. => true
  | .invokeinterface .. => true
  | _ => false
theorem lay_in {C : String} {T : u_T} {N : Nat} {ps : List Nat} (h : (List.range N).all (fun k => hasW (ps.getD k 0) (u_lay C T k)) = true) : ∀ w ∈ u_ws C T N, w ∈ ALL := by
  intro w hw
  obtain ⟨k, hk, rfl⟩ := List.mem_map.mp hw
  exact hasW_mem (List.all_eq_true.mp h k hk)
theorem fty_in {T : u_T} {N : Nat} (h : (List.range N).all (fun k => (parseFieldDescriptor (T k).2.2.1).isSome) = true) : ∀ k, k < N → parseFieldDescriptor (T k).2.2.1 = some ((parseFieldDescriptor (T k).2.2.1).getD .int) := by
  intro k hk
  have h1 := List.all_eq_true.mp h k (List.mem_range.mpr hk)
  cases hp : parseFieldDescriptor (T k).2.2.1 with
  | none => rw [hp] at h1; cases h1
  | some t => rfl
def clsP (ci : Nat) (r : vw_C) : Prop := (∀ w ∈ u_ws r.1 r.2.1 r.2.2, w ∈ ALL) ∧ (∀ k, k < r.2.2 → parseFieldDescriptor (r.2.1 k).2.2.1 = some (ftyOf ci k)) ∧ (∀ a, a < r.2.2 → ∀ b, b < r.2.2 → a ≠ b → (r.2.1 a).2.1 ≠ (r.2.1 b).2.1) ∧ cN ci = r.2.2
theorem cls_0 : clsP 0 classes[0] := ⟨lay_in lay_X0, fty_in tc_X0, nmX0, rfl⟩
theorem cls_1 : clsP 1 classes[1] := ⟨lay_in lay_X1, fty_in tc_X1, nmX1, rfl⟩
theorem cls_2 : clsP 2 classes[2] := ⟨lay_in lay_X2, fty_in tc_X2, nmX2, rfl⟩
theorem cls_3 : clsP 3 classes[3] := ⟨lay_in lay_X3, fty_in tc_X3, nmX3, rfl⟩
theorem cls_4 : clsP 4 classes[4] := ⟨lay_in lay_X4, fty_in tc_X4, nmX4, rfl⟩
theorem cls_5 : clsP 5 classes[5] := ⟨lay_in lay_X5, fty_in tc_X5, nmX5, rfl⟩
theorem cls_6 : clsP 6 classes[6] := ⟨lay_in lay_X6, fty_in tc_X6, nmX6, rfl⟩
theorem cls_7 : clsP 7 classes[7] := ⟨lay_in lay_X7, fty_in tc_X7, nmX7, rfl⟩
theorem cls_8 : clsP 8 classes[8] := ⟨lay_in lay_X8, fty_in tc_X8, nmX8, rfl⟩
theorem cls_9 : clsP 9 classes[9] := ⟨lay_in lay_X9, fty_in tc_X9, nmX9, rfl⟩
theorem cls_10 : clsP 10 classes[10] := ⟨lay_in lay_X10, fty_in tc_X10, nmX10, rfl⟩
theorem cls_11 : clsP 11 classes[11] := ⟨lay_in lay_X11, fty_in tc_X11, nmX11, rfl⟩
theorem cls_12 : clsP 12 classes[12] := ⟨lay_in lay_X12, fty_in tc_X12, nmX12, rfl⟩
theorem cls_13 : clsP 13 classes[13] := ⟨lay_in lay_J4, fty_in tc_J4, nmJ4, rfl⟩
theorem cls_ok : ∀ (ci : Nat) (r : vw_C), classes[ci]? = some r → clsP ci r := by
  intro ci r h
  match ci, h with
  | 0, h => cases h; exact cls_0
  | 1, h => cases h; exact cls_1
  | 2, h => cases h; exact cls_2
  | 3, h => cases h; exact cls_3
  | 4, h => cases h; exact cls_4
  | 5, h => cases h; exact cls_5
  | 6, h => cases h; exact cls_6
  | 7, h => cases h; exact cls_7
  | 8, h => cases h; exact cls_8
  | 9, h => cases h; exact cls_9
  | 10, h => cases h; exact cls_10
  | 11, h => cases h; exact cls_11
  | 12, h => cases h; exact cls_12
  | 13, h => cases h; exact cls_13
  | k + 14, h => simp [classes] at h
def ctyOK (c : Nat) (t : FieldType) : Bool := match c, t with
  | 0, .int => true
  | 1, .boolean => true
  | 2, .byte => true
  | 4, .long => true
  | 5, .object _ => true
  | 5, .array _ => true
  | _, _ => false
theorem cty_all : (List.range 14).all (fun ci => (List.range (cN ci)).all (fun j => ctyOK (cty ci j) (ftyOf ci j))) = true := by decide +kernel
theorem cty_ok {ci j : Nat} {r : vw_C} (h : classes[ci]? = some r) (hj : j < r.2.2) : ctyOK (cty ci j) (ftyOf ci j) = true := by
  have hc := (cls_ok ci r h).2.2.2
  have hl : ci < 14 := (List.getElem?_eq_some_iff.mp h).1
  exact List.all_eq_true.mp (List.all_eq_true.mp cty_all ci (List.mem_range.mpr hl)) j (List.mem_range.mpr (by rw [hc]; exact hj))
theorem look_mem {α β : Type} [BEq α] [LawfulBEq α] : ∀ {l : List (α × β)} {a : α} {b : β}, l.lookup a = some b → (a, b) ∈ l
  | [], a, b, h => by cases h
  | (x, y) :: l, a, b, h => by
    rw [List.lookup_cons] at h
    split at h
    · rename_i hx
      cases h
      rw [eq_of_beq hx]
      exact List.mem_cons_self
    · exact List.mem_cons_of_mem _ (look_mem h)
def Ctx (w : Wp) (X : Nat × (Nat → Int32)) (q : MT) (p : Program) (s : State) (m : MethodId) (args : Array Value) (meth : Method) (c : Code) : Prop :=
  p.tables.exec = Jvm.exec ∧ c.code = q.2.1 ∧ meth.sig.returnType = q.2.2.2.1 ∧ c.maxLocals = q.2.2.1 ∧ s.vm.findClass (oN q.2.2.2.2.1) = some m.cls ∧ (∀ x ∈ ALL, x.before args s = true) ∧ meth.locks = false ∧ (q.1.name = "<init>" → meth.name = "<init>") ∧ va_K w.2.1 classes (tysW w) s ∧ Old w X s s.heap ∧ w.1 ≤ s.heap.size ∧ (∀ k, w.2.2.2 k = .null ∨ ∃ a, w.2.2.2 k = .ref a)
theorem ov_cat {w : Wp} (h : ∀ k, w.2.2.2 k = .null ∨ ∃ a, w.2.2.2 k = .ref a) (k : Nat) : (w.2.2.2 k).category = 1 := by
  rcases h k with h | ⟨a, h⟩ <;> rw [h] <;> rfl
theorem inR_in {j : Int32} {n : Nat} (h : inR j n = true) : vp_in j n := by
  unfold inR at h
  have h1 : ¬ (j < 0 ∨ n ≤ j.toNatClampNeg) := of_decide_eq_true h
  exact h1
theorem cv_rfv (w : Wp) (o : Option Nat) : cv w (rfv o) = va_rf (rfb w.1 o) := by cases o <;> rfl
theorem jmp_to {pc : Nat} {off : Int} (h : 0 ≤ (pc : Int) + off) : (pc : Int) + off = (jmp pc off : Int) := (Int.toNat_of_nonneg h).symm
theorem ent_obj {w : Wp} {M : Mem} {k ci : Nat} (h : mK M k = ci + 1) (hc : ci < 14) : ent w M k = .inr (ci, (List.range (cN ci)).map (fun j => slotV w M ci k j)) := by
  unfold ent
  rw [if_neg (by omega), if_neg (by omega), h, Nat.add_sub_cancel]
theorem ent_arrI {w : Wp} {M : Mem} {k kd : Nat} (h : mK M k = kd) (h1 : 100 ≤ kd) (h2 : kd < 103) : ent w M k = .inl (w.2.2.1 kd, mL M k, .inl (mI M k)) := by
  unfold ent
  rw [if_neg (by omega), if_pos (by omega), h]
theorem ent_arrR {w : Wp} {M : Mem} {k kd : Nat} (h : mK M k = kd) (h1 : 103 ≤ kd) : ent w M k = .inl (w.2.2.1 kd, mL M k, .inr (.inr (.inr (.inr (fun j => rfb w.1 (mR M k j)))))) := by
  unfold ent
  rw [if_pos (by omega), h]
theorem map_set {N j : Nat} {g g' : Nat → Value} {v : Value} (hj : j < N) (hv : g' j = v) (ho : ∀ i, i ≠ j → g' i = g i) : ((List.range N).map g).set j v = (List.range N).map g' := by
  apply List.ext_getElem?
  intro i
  by_cases hi : i < N
  · by_cases hij : i = j
    · subst hij
      rw [List.getElem?_set_self (by rw [List.length_map, List.length_range]; exact hi), List.getElem?_map, List.getElem?_range hi, ← hv]
      rfl
    · rw [List.getElem?_set_ne (Ne.symm hij), List.getElem?_map, List.getElem?_map, List.getElem?_range hi]
      exact congrArg some (ho i hij).symm
  · rw [List.getElem?_eq_none (by rw [List.length_set, List.length_map, List.length_range]; omega), List.getElem?_eq_none (by rw [List.length_map, List.length_range]; omega)]
theorem map_get {N j : Nat} {g : Nat → Value} (hj : j < N) : ((List.range N).map g)[j]? = some (g j) := by
  rw [List.getElem?_map, List.getElem?_range hj]
  rfl
theorem u2_row {f : Nat → Nat → Int32} {a j : Nat} {x : Int32} : u2 f a j x a = upd (f a) j x := by
  funext b
  unfold u2 upd
  by_cases h : b = j
  · rw [if_pos h, if_pos ⟨rfl, h⟩]
  · rw [if_neg h, if_neg (fun z => h z.2)]
theorem u2_rowR {b0 : Nat} {f : Nat → Nat → Option Nat} {a j b : Nat} : (fun i => rfb b0 (u2 f a j (some b) a i)) = va_up (fun i => rfb b0 (f a i)) j (some (b0 + b)) := by
  funext i
  unfold u2 va_up
  by_cases h : i = j
  · rw [if_pos h, if_pos ⟨rfl, h⟩]; rfl
  · rw [if_neg h, if_neg (fun z => h z.2)]
section STEP
variable {w : Wp} {X : Nat × (Nat → Int32)} {q : MT} {p : Program} {l : Launch} {e : Env} {R : Room} {s : State} {m : MethodId} {args : Array Value} {below : List Frame} {meth : Method} {c : Code} {H : Heap} {locs : List Loc} {Q : State → Prop} {M : Mem} {L : List (Option Value)} {ls : Array Slot} {pc nx n0 s0 : Nat} {f : Fr}
/-- what goes on behind the step -/
abbrev KK (w : Wp) (X : Nat × (Nat → Int32)) (q : MT) (p : Program) (l : Launch) (e : Env) (R : Room) (s : State) (m : MethodId) (args : Array Value) (below : List Frame) (meth : Method) (c : Code) (Q : State → Prop) (n0 s0 : Nat) (f : Fr) : Prop := ∀ (H' : Heap) (locs' : List Loc) (ls' : Array Slot), Hp w f.2.2.2 s.heap H' locs' → lvh w ls' q.2.2.1 f.2.1 → mX f.2.2.2 = X → W p l e R s m args below meth c H' locs' (mn f.2.2.2 - n0) (ms f.2.2.2 - s0) Q (F0 m f.1 ls' (f.2.2.1.map (cv w)))
abbrev GG (w : Wp) (p : Program) (l : Launch) (e : Env) (R : Room) (s : State) (m : MethodId) (args : Array Value) (below : List Frame) (meth : Method) (c : Code) (Q : State → Prop) (H : Heap) (locs : List Loc) (M : Mem) (n0 s0 pc : Nat) (ls : Array Slot) (st : List Value) : Prop := W p l e R s m args below meth c H locs (mn M - n0) (ms M - s0) Q (F0 m pc ls (st.map (cv w)))
abbrev DD (q : MT) (i : Instr) (pc nx : Nat) : Prop := ∃ len, decode q.2.1 pc = .ok (i, len) ∧ (isSw i = false → len = ilen i ∧ nx = pc + ilen i)
theorem s_iconst {st : List Value} {k : Int} (hd : DD q (.iconst k) pc nx) (h : step1 q.2.2.2.2.1 (decide (q.1.name = "<init>")) (.iconst k) pc nx L st M = some f) (C0 : Ctx w X q p s m args meth c) (hH : Hp w M s.heap H locs) (hl : lvh w ls q.2.2.1 L) (hX : mX M = X) (hn0 : n0 ≤ mn M) (hs0 : s0 ≤ ms M) (hc : mn f.2.2.2 - n0 ≤ R.cells) (hs : ms f.2.2.2 - s0 ≤ R.slots) (kk : KK w X q p l e R s m args below meth c Q n0 s0 f) : GG w p l e R s m args below meth c Q H locs M n0 s0 pc ls st := by
  obtain ⟨hx, hb, hrt, hml, hown, hts, hlk, hnm, hK, hO, hbs, hov0⟩ := C0
  have hov := ov_cat hov0
  obtain ⟨len, hd, hz⟩ := hd
  obtain ⟨rfl, rfl⟩ := hz rfl
  unfold step1 at h
  dsimp only at h
  cases h
  exact lv_iconst hx hb hd rfl (kk _ _ _ hH hl hX)

theorem s_bipush {st : List Value} {k : Int} (hd : DD q (.bipush k) pc nx) (h : step1 q.2.2.2.2.1 (decide (q.1.name = "<init>")) (.bipush k) pc nx L st M = some f) (C0 : Ctx w X q p s m args meth c) (hH : Hp w M s.heap H locs) (hl : lvh w ls q.2.2.1 L) (hX : mX M = X) (hn0 : n0 ≤ mn M) (hs0 : s0 ≤ ms M) (hc : mn f.2.2.2 - n0 ≤ R.cells) (hs : ms f.2.2.2 - s0 ≤ R.slots) (kk : KK w X q p l e R s m args below meth c Q n0 s0 f) : GG w p l e R s m args below meth c Q H locs M n0 s0 pc ls st := by
  obtain ⟨hx, hb, hrt, hml, hown, hts, hlk, hnm, hK, hO, hbs, hov0⟩ := C0
  have hov := ov_cat hov0
  obtain ⟨len, hd, hz⟩ := hd
  obtain ⟨rfl, rfl⟩ := hz rfl
  unfold step1 at h
  dsimp only at h
  cases h
  exact lv_bipush hx hb hd rfl (kk _ _ _ hH hl hX)

theorem s_sipush {st : List Value} {k : Int} (hd : DD q (.sipush k) pc nx) (h : step1 q.2.2.2.2.1 (decide (q.1.name = "<init>")) (.sipush k) pc nx L st M = some f) (C0 : Ctx w X q p s m args meth c) (hH : Hp w M s.heap H locs) (hl : lvh w ls q.2.2.1 L) (hX : mX M = X) (hn0 : n0 ≤ mn M) (hs0 : s0 ≤ ms M) (hc : mn f.2.2.2 - n0 ≤ R.cells) (hs : ms f.2.2.2 - s0 ≤ R.slots) (kk : KK w X q p l e R s m args below meth c Q n0 s0 f) : GG w p l e R s m args below meth c Q H locs M n0 s0 pc ls st := by
  obtain ⟨hx, hb, hrt, hml, hown, hts, hlk, hnm, hK, hO, hbs, hov0⟩ := C0
  have hov := ov_cat hov0
  obtain ⟨len, hd, hz⟩ := hd
  obtain ⟨rfl, rfl⟩ := hz rfl
  unfold step1 at h
  dsimp only at h
  cases h
  exact lv_sipush hx hb hd rfl (kk _ _ _ hH hl hX)

theorem s_lconst {st : List Value} {k : Fin 2} (hd : DD q (.lconst k) pc nx) (h : step1 q.2.2.2.2.1 (decide (q.1.name = "<init>")) (.lconst k) pc nx L st M = some f) (C0 : Ctx w X q p s m args meth c) (hH : Hp w M s.heap H locs) (hl : lvh w ls q.2.2.1 L) (hX : mX M = X) (hn0 : n0 ≤ mn M) (hs0 : s0 ≤ ms M) (hc : mn f.2.2.2 - n0 ≤ R.cells) (hs : ms f.2.2.2 - s0 ≤ R.slots) (kk : KK w X q p l e R s m args below meth c Q n0 s0 f) : GG w p l e R s m args below meth c Q H locs M n0 s0 pc ls st := by
  obtain ⟨hx, hb, hrt, hml, hown, hts, hlk, hnm, hK, hO, hbs, hov0⟩ := C0
  have hov := ov_cat hov0
  obtain ⟨len, hd, hz⟩ := hd
  obtain ⟨rfl, rfl⟩ := hz rfl
  unfold step1 at h
  dsimp only at h
  cases h
  exact lv_lconst hx hb hd rfl (kk _ _ _ hH hl hX)

theorem s_aconst_null {st : List Value}  (hd : DD q (.aconst_null) pc nx) (h : step1 q.2.2.2.2.1 (decide (q.1.name = "<init>")) (.aconst_null) pc nx L st M = some f) (C0 : Ctx w X q p s m args meth c) (hH : Hp w M s.heap H locs) (hl : lvh w ls q.2.2.1 L) (hX : mX M = X) (hn0 : n0 ≤ mn M) (hs0 : s0 ≤ ms M) (hc : mn f.2.2.2 - n0 ≤ R.cells) (hs : ms f.2.2.2 - s0 ≤ R.slots) (kk : KK w X q p l e R s m args below meth c Q n0 s0 f) : GG w p l e R s m args below meth c Q H locs M n0 s0 pc ls st := by
  obtain ⟨hx, hb, hrt, hml, hown, hts, hlk, hnm, hK, hO, hbs, hov0⟩ := C0
  have hov := ov_cat hov0
  obtain ⟨len, hd, hz⟩ := hd
  obtain ⟨rfl, rfl⟩ := hz rfl
  unfold step1 at h
  dsimp only at h
  cases h
  exact lv_null hx hb hd (kk _ _ _ hH hl hX)

theorem s_iload_n {st : List Value} {k : Fin 4} (hd : DD q (.iload_n k) pc nx) (h : step1 q.2.2.2.2.1 (decide (q.1.name = "<init>")) (.iload_n k) pc nx L st M = some f) (C0 : Ctx w X q p s m args meth c) (hH : Hp w M s.heap H locs) (hl : lvh w ls q.2.2.1 L) (hX : mX M = X) (hn0 : n0 ≤ mn M) (hs0 : s0 ≤ ms M) (hc : mn f.2.2.2 - n0 ≤ R.cells) (hs : ms f.2.2.2 - s0 ≤ R.slots) (kk : KK w X q p l e R s m args below meth c Q n0 s0 f) : GG w p l e R s m args below meth c Q H locs M n0 s0 pc ls st := by
  obtain ⟨hx, hb, hrt, hml, hown, hts, hlk, hnm, hK, hO, hbs, hov0⟩ := C0
  have hov := ov_cat hov0
  obtain ⟨len, hd, hz⟩ := hd
  obtain ⟨rfl, rfl⟩ := hz rfl
  unfold step1 at h
  dsimp only at h
  split at h
  · rename_i x hv
    cases h
    have hv := hl.2.2.2 _ _ hv
    exact lv_iload_n hx hb hd rfl hv (kk _ _ _ hH hl hX)
  · cases h

theorem s_iload {st : List Value} {k : Nat} (hd : DD q (.iload k) pc nx) (h : step1 q.2.2.2.2.1 (decide (q.1.name = "<init>")) (.iload k) pc nx L st M = some f) (C0 : Ctx w X q p s m args meth c) (hH : Hp w M s.heap H locs) (hl : lvh w ls q.2.2.1 L) (hX : mX M = X) (hn0 : n0 ≤ mn M) (hs0 : s0 ≤ ms M) (hc : mn f.2.2.2 - n0 ≤ R.cells) (hs : ms f.2.2.2 - s0 ≤ R.slots) (kk : KK w X q p l e R s m args below meth c Q n0 s0 f) : GG w p l e R s m args below meth c Q H locs M n0 s0 pc ls st := by
  obtain ⟨hx, hb, hrt, hml, hown, hts, hlk, hnm, hK, hO, hbs, hov0⟩ := C0
  have hov := ov_cat hov0
  obtain ⟨len, hd, hz⟩ := hd
  obtain ⟨rfl, rfl⟩ := hz rfl
  unfold step1 at h
  dsimp only at h
  split at h
  · rename_i x hv
    cases h
    have hv := hl.2.2.2 _ _ hv
    exact lv_iload hx hb hd hv (kk _ _ _ hH hl hX)
  · cases h

theorem s_lload_n {st : List Value} {k : Fin 4} (hd : DD q (.lload_n k) pc nx) (h : step1 q.2.2.2.2.1 (decide (q.1.name = "<init>")) (.lload_n k) pc nx L st M = some f) (C0 : Ctx w X q p s m args meth c) (hH : Hp w M s.heap H locs) (hl : lvh w ls q.2.2.1 L) (hX : mX M = X) (hn0 : n0 ≤ mn M) (hs0 : s0 ≤ ms M) (hc : mn f.2.2.2 - n0 ≤ R.cells) (hs : ms f.2.2.2 - s0 ≤ R.slots) (kk : KK w X q p l e R s m args below meth c Q n0 s0 f) : GG w p l e R s m args below meth c Q H locs M n0 s0 pc ls st := by
  obtain ⟨hx, hb, hrt, hml, hown, hts, hlk, hnm, hK, hO, hbs, hov0⟩ := C0
  have hov := ov_cat hov0
  obtain ⟨len, hd, hz⟩ := hd
  obtain ⟨rfl, rfl⟩ := hz rfl
  unfold step1 at h
  dsimp only at h
  split at h
  · rename_i x hv
    cases h
    have hv := hl.2.2.2 _ _ hv
    exact lv_lload_n hx hb hd rfl hv (kk _ _ _ hH hl hX)
  · cases h

theorem s_lload {st : List Value} {k : Nat} (hd : DD q (.lload k) pc nx) (h : step1 q.2.2.2.2.1 (decide (q.1.name = "<init>")) (.lload k) pc nx L st M = some f) (C0 : Ctx w X q p s m args meth c) (hH : Hp w M s.heap H locs) (hl : lvh w ls q.2.2.1 L) (hX : mX M = X) (hn0 : n0 ≤ mn M) (hs0 : s0 ≤ ms M) (hc : mn f.2.2.2 - n0 ≤ R.cells) (hs : ms f.2.2.2 - s0 ≤ R.slots) (kk : KK w X q p l e R s m args below meth c Q n0 s0 f) : GG w p l e R s m args below meth c Q H locs M n0 s0 pc ls st := by
  obtain ⟨hx, hb, hrt, hml, hown, hts, hlk, hnm, hK, hO, hbs, hov0⟩ := C0
  have hov := ov_cat hov0
  obtain ⟨len, hd, hz⟩ := hd
  obtain ⟨rfl, rfl⟩ := hz rfl
  unfold step1 at h
  dsimp only at h
  split at h
  · rename_i x hv
    cases h
    have hv := hl.2.2.2 _ _ hv
    exact lv_lload hx hb hd hv (kk _ _ _ hH hl hX)
  · cases h

theorem s_aload_n {st : List Value} {k : Fin 4} (hd : DD q (.aload_n k) pc nx) (h : step1 q.2.2.2.2.1 (decide (q.1.name = "<init>")) (.aload_n k) pc nx L st M = some f) (C0 : Ctx w X q p s m args meth c) (hH : Hp w M s.heap H locs) (hl : lvh w ls q.2.2.1 L) (hX : mX M = X) (hn0 : n0 ≤ mn M) (hs0 : s0 ≤ ms M) (hc : mn f.2.2.2 - n0 ≤ R.cells) (hs : ms f.2.2.2 - s0 ≤ R.slots) (kk : KK w X q p l e R s m args below meth c Q n0 s0 f) : GG w p l e R s m args below meth c Q H locs M n0 s0 pc ls st := by
  obtain ⟨hx, hb, hrt, hml, hown, hts, hlk, hnm, hK, hO, hbs, hov0⟩ := C0
  have hov := ov_cat hov0
  obtain ⟨len, hd, hz⟩ := hd
  obtain ⟨rfl, rfl⟩ := hz rfl
  unfold step1 at h
  dsimp only at h
  split at h
  · rename_i v hv
    have hv := hl.2.2.2 _ _ hv
    split at h
    · rename_i hvv
      cases h
      have kk := kk _ _ _ hH hl hX
      have hr : cv w v = .null ∨ ∃ a, cv w v = .ref a := by
        cases v with
        | ref a => exact Or.inr ⟨_, rfl⟩
        | null => exact Or.inl rfl
        | retAddr j => exact hov0 j
        | _ => cases hvv
      have kk : W p l e R s m args below meth c H locs (mn M - n0) (ms M - s0) Q (F0 m _ ls (cv w v :: st.map (cv w))) := kk
      rcases hr with hr | ⟨a, hr⟩
      · rw [hr] at hv kk
        exact lv_aload_nN hx hb hd rfl hv kk
      · rw [hr] at hv kk
        exact lv_aload_n hx hb hd rfl hv kk
    · cases h
  · cases h

theorem s_aload {st : List Value} {k : Nat} (hd : DD q (.aload k) pc nx) (h : step1 q.2.2.2.2.1 (decide (q.1.name = "<init>")) (.aload k) pc nx L st M = some f) (C0 : Ctx w X q p s m args meth c) (hH : Hp w M s.heap H locs) (hl : lvh w ls q.2.2.1 L) (hX : mX M = X) (hn0 : n0 ≤ mn M) (hs0 : s0 ≤ ms M) (hc : mn f.2.2.2 - n0 ≤ R.cells) (hs : ms f.2.2.2 - s0 ≤ R.slots) (kk : KK w X q p l e R s m args below meth c Q n0 s0 f) : GG w p l e R s m args below meth c Q H locs M n0 s0 pc ls st := by
  obtain ⟨hx, hb, hrt, hml, hown, hts, hlk, hnm, hK, hO, hbs, hov0⟩ := C0
  have hov := ov_cat hov0
  obtain ⟨len, hd, hz⟩ := hd
  obtain ⟨rfl, rfl⟩ := hz rfl
  unfold step1 at h
  dsimp only at h
  split at h
  · rename_i v hv
    have hv := hl.2.2.2 _ _ hv
    split at h
    · rename_i hvv
      cases h
      have kk := kk _ _ _ hH hl hX
      have hr : cv w v = .null ∨ ∃ a, cv w v = .ref a := by
        cases v with
        | ref a => exact Or.inr ⟨_, rfl⟩
        | null => exact Or.inl rfl
        | retAddr j => exact hov0 j
        | _ => cases hvv
      have kk : W p l e R s m args below meth c H locs (mn M - n0) (ms M - s0) Q (F0 m _ ls (cv w v :: st.map (cv w))) := kk
      rcases hr with hr | ⟨a, hr⟩
      · rw [hr] at hv kk
        exact lv_aloadN hx hb hd hv kk
      · rw [hr] at hv kk
        exact lv_aload hx hb hd hv kk
    · cases h
  · cases h

theorem s_istore_n {st : List Value} {k : Fin 4} (hd : DD q (.istore_n k) pc nx) (h : step1 q.2.2.2.2.1 (decide (q.1.name = "<init>")) (.istore_n k) pc nx L st M = some f) (C0 : Ctx w X q p s m args meth c) (hH : Hp w M s.heap H locs) (hl : lvh w ls q.2.2.1 L) (hX : mX M = X) (hn0 : n0 ≤ mn M) (hs0 : s0 ≤ ms M) (hc : mn f.2.2.2 - n0 ≤ R.cells) (hs : ms f.2.2.2 - s0 ≤ R.slots) (kk : KK w X q p l e R s m args below meth c Q n0 s0 f) : GG w p l e R s m args below meth c Q H locs M n0 s0 pc ls st := by
  obtain ⟨hx, hb, hrt, hml, hown, hts, hlk, hnm, hK, hO, hbs, hov0⟩ := C0
  have hov := ov_cat hov0
  obtain ⟨len, hd, hz⟩ := hd
  obtain ⟨rfl, rfl⟩ := hz rfl
  unfold step1 at h
  dsimp only at h
  split at h
  · rename_i x st
    split at h
    · rename_i hk
      cases h
      refine lv_istore_n hx hb hd rfl (lvh_has hl) (by rw [← hl.2.2.1]; exact hk) rfl (fun ls' h' => kk _ _ _ hH (lvh_set (v := .int x) hov hl (by rw [← hl.2.2.1]; exact hk) h') hX)
    · cases h
  · cases h

theorem s_istore {st : List Value} {k : Nat} (hd : DD q (.istore k) pc nx) (h : step1 q.2.2.2.2.1 (decide (q.1.name = "<init>")) (.istore k) pc nx L st M = some f) (C0 : Ctx w X q p s m args meth c) (hH : Hp w M s.heap H locs) (hl : lvh w ls q.2.2.1 L) (hX : mX M = X) (hn0 : n0 ≤ mn M) (hs0 : s0 ≤ ms M) (hc : mn f.2.2.2 - n0 ≤ R.cells) (hs : ms f.2.2.2 - s0 ≤ R.slots) (kk : KK w X q p l e R s m args below meth c Q n0 s0 f) : GG w p l e R s m args below meth c Q H locs M n0 s0 pc ls st := by
  obtain ⟨hx, hb, hrt, hml, hown, hts, hlk, hnm, hK, hO, hbs, hov0⟩ := C0
  have hov := ov_cat hov0
  obtain ⟨len, hd, hz⟩ := hd
  obtain ⟨rfl, rfl⟩ := hz rfl
  unfold step1 at h
  dsimp only at h
  split at h
  · rename_i x st
    split at h
    · rename_i hk
      cases h
      refine lv_istore hx hb hd (lvh_has hl) (by rw [← hl.2.2.1]; exact hk) rfl (fun ls' h' => kk _ _ _ hH (lvh_set (v := .int x) hov hl (by rw [← hl.2.2.1]; exact hk) h') hX)
    · cases h
  · cases h

theorem s_lstore_n {st : List Value} {k : Fin 4} (hd : DD q (.lstore_n k) pc nx) (h : step1 q.2.2.2.2.1 (decide (q.1.name = "<init>")) (.lstore_n k) pc nx L st M = some f) (C0 : Ctx w X q p s m args meth c) (hH : Hp w M s.heap H locs) (hl : lvh w ls q.2.2.1 L) (hX : mX M = X) (hn0 : n0 ≤ mn M) (hs0 : s0 ≤ ms M) (hc : mn f.2.2.2 - n0 ≤ R.cells) (hs : ms f.2.2.2 - s0 ≤ R.slots) (kk : KK w X q p l e R s m args below meth c Q n0 s0 f) : GG w p l e R s m args below meth c Q H locs M n0 s0 pc ls st := by
  obtain ⟨hx, hb, hrt, hml, hown, hts, hlk, hnm, hK, hO, hbs, hov0⟩ := C0
  have hov := ov_cat hov0
  obtain ⟨len, hd, hz⟩ := hd
  obtain ⟨rfl, rfl⟩ := hz rfl
  unfold step1 at h
  dsimp only at h
  split at h
  · rename_i x st
    split at h
    · rename_i hk
      cases h
      refine lv_lstore_n hx hb hd rfl (lvh_has hl) (by rw [← hl.2.2.1]; exact hk) rfl (fun ls' h' => kk _ _ _ hH (lvh_setL (v := .long x) hov hl (by rw [← hl.2.2.1]; exact hk) h') hX)
    · cases h
  · cases h

theorem s_lstore {st : List Value} {k : Nat} (hd : DD q (.lstore k) pc nx) (h : step1 q.2.2.2.2.1 (decide (q.1.name = "<init>")) (.lstore k) pc nx L st M = some f) (C0 : Ctx w X q p s m args meth c) (hH : Hp w M s.heap H locs) (hl : lvh w ls q.2.2.1 L) (hX : mX M = X) (hn0 : n0 ≤ mn M) (hs0 : s0 ≤ ms M) (hc : mn f.2.2.2 - n0 ≤ R.cells) (hs : ms f.2.2.2 - s0 ≤ R.slots) (kk : KK w X q p l e R s m args below meth c Q n0 s0 f) : GG w p l e R s m args below meth c Q H locs M n0 s0 pc ls st := by
  obtain ⟨hx, hb, hrt, hml, hown, hts, hlk, hnm, hK, hO, hbs, hov0⟩ := C0
  have hov := ov_cat hov0
  obtain ⟨len, hd, hz⟩ := hd
  obtain ⟨rfl, rfl⟩ := hz rfl
  unfold step1 at h
  dsimp only at h
  split at h
  · rename_i x st
    split at h
    · rename_i hk
      cases h
      refine lv_lstore hx hb hd (lvh_has hl) (by rw [← hl.2.2.1]; exact hk) rfl (fun ls' h' => kk _ _ _ hH (lvh_setL (v := .long x) hov hl (by rw [← hl.2.2.1]; exact hk) h') hX)
    · cases h
  · cases h

theorem s_astore_n {st : List Value} {k : Fin 4} (hd : DD q (.astore_n k) pc nx) (h : step1 q.2.2.2.2.1 (decide (q.1.name = "<init>")) (.astore_n k) pc nx L st M = some f) (C0 : Ctx w X q p s m args meth c) (hH : Hp w M s.heap H locs) (hl : lvh w ls q.2.2.1 L) (hX : mX M = X) (hn0 : n0 ≤ mn M) (hs0 : s0 ≤ ms M) (hc : mn f.2.2.2 - n0 ≤ R.cells) (hs : ms f.2.2.2 - s0 ≤ R.slots) (kk : KK w X q p l e R s m args below meth c Q n0 s0 f) : GG w p l e R s m args below meth c Q H locs M n0 s0 pc ls st := by
  obtain ⟨hx, hb, hrt, hml, hown, hts, hlk, hnm, hK, hO, hbs, hov0⟩ := C0
  have hov := ov_cat hov0
  obtain ⟨len, hd, hz⟩ := hd
  obtain ⟨rfl, rfl⟩ := hz rfl
  unfold step1 at h
  dsimp only at h
  split at h
  · rename_i v st
    split at h
    · rename_i hk
      rw [Bool.and_eq_true, decide_eq_true_eq] at hk
      obtain ⟨hv, hk⟩ := hk
      cases h
      have hkn := hk
      rw [hl.2.2.1] at hkn
      have kk := fun ls' h' => kk _ _ ls' hH (lvh_set (v := v) hov hl hkn h') hX
      have hr : cv w v = .null ∨ ∃ a, cv w v = .ref a := by
        cases v with
        | ref a => exact Or.inr ⟨_, rfl⟩
        | null => exact Or.inl rfl
        | retAddr j => exact hov0 j
        | _ => cases hv
      show W p l e R s m args below meth c H locs (mn M - n0) (ms M - s0) Q (F0 m _ ls (cv w v :: st.map (cv w)))
      rcases hr with hr | ⟨a, hr⟩
      · rw [hr] at kk ⊢
        exact lv_astore_nN hx hb hd rfl (lvh_has hl) hkn rfl (fun ls' h' => kk ls' h')
      · rw [hr] at kk ⊢
        exact lv_astore_n hx hb hd rfl (lvh_has hl) hkn rfl (fun ls' h' => kk ls' h')
    · cases h
  · cases h

theorem s_astore {st : List Value} {k : Nat} (hd : DD q (.astore k) pc nx) (h : step1 q.2.2.2.2.1 (decide (q.1.name = "<init>")) (.astore k) pc nx L st M = some f) (C0 : Ctx w X q p s m args meth c) (hH : Hp w M s.heap H locs) (hl : lvh w ls q.2.2.1 L) (hX : mX M = X) (hn0 : n0 ≤ mn M) (hs0 : s0 ≤ ms M) (hc : mn f.2.2.2 - n0 ≤ R.cells) (hs : ms f.2.2.2 - s0 ≤ R.slots) (kk : KK w X q p l e R s m args below meth c Q n0 s0 f) : GG w p l e R s m args below meth c Q H locs M n0 s0 pc ls st := by
  obtain ⟨hx, hb, hrt, hml, hown, hts, hlk, hnm, hK, hO, hbs, hov0⟩ := C0
  have hov := ov_cat hov0
  obtain ⟨len, hd, hz⟩ := hd
  obtain ⟨rfl, rfl⟩ := hz rfl
  unfold step1 at h
  dsimp only at h
  split at h
  · rename_i v st
    split at h
    · rename_i hk
      rw [Bool.and_eq_true, decide_eq_true_eq] at hk
      obtain ⟨hv, hk⟩ := hk
      cases h
      have hkn := hk
      rw [hl.2.2.1] at hkn
      have kk := fun ls' h' => kk _ _ ls' hH (lvh_set (v := v) hov hl hkn h') hX
      have hr : cv w v = .null ∨ ∃ a, cv w v = .ref a := by
        cases v with
        | ref a => exact Or.inr ⟨_, rfl⟩
        | null => exact Or.inl rfl
        | retAddr j => exact hov0 j
        | _ => cases hv
      show W p l e R s m args below meth c H locs (mn M - n0) (ms M - s0) Q (F0 m _ ls (cv w v :: st.map (cv w)))
      rcases hr with hr | ⟨a, hr⟩
      · rw [hr] at kk ⊢
        exact lv_astoreN hx hb hd (lvh_has hl) hkn rfl (fun ls' h' => kk ls' h')
      · rw [hr] at kk ⊢
        exact lv_astore hx hb hd (lvh_has hl) hkn rfl (fun ls' h' => kk ls' h')
    · cases h
  · cases h

theorem s_iinc {st : List Value} {k : Nat} {n : Int} (hd : DD q (.iinc k n) pc nx) (h : step1 q.2.2.2.2.1 (decide (q.1.name = "<init>")) (.iinc k n) pc nx L st M = some f) (C0 : Ctx w X q p s m args meth c) (hH : Hp w M s.heap H locs) (hl : lvh w ls q.2.2.1 L) (hX : mX M = X) (hn0 : n0 ≤ mn M) (hs0 : s0 ≤ ms M) (hc : mn f.2.2.2 - n0 ≤ R.cells) (hs : ms f.2.2.2 - s0 ≤ R.slots) (kk : KK w X q p l e R s m args below meth c Q n0 s0 f) : GG w p l e R s m args below meth c Q H locs M n0 s0 pc ls st := by
  obtain ⟨hx, hb, hrt, hml, hown, hts, hlk, hnm, hK, hO, hbs, hov0⟩ := C0
  have hov := ov_cat hov0
  obtain ⟨len, hd, hz⟩ := hd
  obtain ⟨rfl, rfl⟩ := hz rfl
  unfold step1 at h
  dsimp only at h
  split at h
  · rename_i x hv
    split at h
    · rename_i hk
      cases h
      obtain ⟨j, hj⟩ := List.getElem?_of_mem (asc_mem (w := w) hv)
      exact lv_iinc (x := x) hx hb hd (lvh_has hl) hj rfl (by rw [← hl.2.2.1]; exact hk.1) rfl (fun ls' h' => kk _ _ _ hH (lvh_set (v := .int (x + Int32.ofInt n)) hov hl (by rw [← hl.2.2.1]; exact hk.1) h') hX)
    · cases h
  · cases h

theorem s_iadd {st : List Value}  (hd : DD q (.iadd) pc nx) (h : step1 q.2.2.2.2.1 (decide (q.1.name = "<init>")) (.iadd) pc nx L st M = some f) (C0 : Ctx w X q p s m args meth c) (hH : Hp w M s.heap H locs) (hl : lvh w ls q.2.2.1 L) (hX : mX M = X) (hn0 : n0 ≤ mn M) (hs0 : s0 ≤ ms M) (hc : mn f.2.2.2 - n0 ≤ R.cells) (hs : ms f.2.2.2 - s0 ≤ R.slots) (kk : KK w X q p l e R s m args below meth c Q n0 s0 f) : GG w p l e R s m args below meth c Q H locs M n0 s0 pc ls st := by
  obtain ⟨hx, hb, hrt, hml, hown, hts, hlk, hnm, hK, hO, hbs, hov0⟩ := C0
  have hov := ov_cat hov0
  obtain ⟨len, hd, hz⟩ := hd
  obtain ⟨rfl, rfl⟩ := hz rfl
  unfold step1 at h
  dsimp only at h
  split at h
  · cases h
    exact lv_iadd hx hb hd (kk _ _ _ hH hl hX)
  · cases h

theorem s_isub {st : List Value}  (hd : DD q (.isub) pc nx) (h : step1 q.2.2.2.2.1 (decide (q.1.name = "<init>")) (.isub) pc nx L st M = some f) (C0 : Ctx w X q p s m args meth c) (hH : Hp w M s.heap H locs) (hl : lvh w ls q.2.2.1 L) (hX : mX M = X) (hn0 : n0 ≤ mn M) (hs0 : s0 ≤ ms M) (hc : mn f.2.2.2 - n0 ≤ R.cells) (hs : ms f.2.2.2 - s0 ≤ R.slots) (kk : KK w X q p l e R s m args below meth c Q n0 s0 f) : GG w p l e R s m args below meth c Q H locs M n0 s0 pc ls st := by
  obtain ⟨hx, hb, hrt, hml, hown, hts, hlk, hnm, hK, hO, hbs, hov0⟩ := C0
  have hov := ov_cat hov0
  obtain ⟨len, hd, hz⟩ := hd
  obtain ⟨rfl, rfl⟩ := hz rfl
  unfold step1 at h
  dsimp only at h
  split at h
  · cases h
    exact lv_isub hx hb hd (kk _ _ _ hH hl hX)
  · cases h

theorem s_imul {st : List Value}  (hd : DD q (.imul) pc nx) (h : step1 q.2.2.2.2.1 (decide (q.1.name = "<init>")) (.imul) pc nx L st M = some f) (C0 : Ctx w X q p s m args meth c) (hH : Hp w M s.heap H locs) (hl : lvh w ls q.2.2.1 L) (hX : mX M = X) (hn0 : n0 ≤ mn M) (hs0 : s0 ≤ ms M) (hc : mn f.2.2.2 - n0 ≤ R.cells) (hs : ms f.2.2.2 - s0 ≤ R.slots) (kk : KK w X q p l e R s m args below meth c Q n0 s0 f) : GG w p l e R s m args below meth c Q H locs M n0 s0 pc ls st := by
  obtain ⟨hx, hb, hrt, hml, hown, hts, hlk, hnm, hK, hO, hbs, hov0⟩ := C0
  have hov := ov_cat hov0
  obtain ⟨len, hd, hz⟩ := hd
  obtain ⟨rfl, rfl⟩ := hz rfl
  unfold step1 at h
  dsimp only at h
  split at h
  · cases h
    exact lv_imul hx hb hd (kk _ _ _ hH hl hX)
  · cases h

theorem s_ishl {st : List Value}  (hd : DD q (.ishl) pc nx) (h : step1 q.2.2.2.2.1 (decide (q.1.name = "<init>")) (.ishl) pc nx L st M = some f) (C0 : Ctx w X q p s m args meth c) (hH : Hp w M s.heap H locs) (hl : lvh w ls q.2.2.1 L) (hX : mX M = X) (hn0 : n0 ≤ mn M) (hs0 : s0 ≤ ms M) (hc : mn f.2.2.2 - n0 ≤ R.cells) (hs : ms f.2.2.2 - s0 ≤ R.slots) (kk : KK w X q p l e R s m args below meth c Q n0 s0 f) : GG w p l e R s m args below meth c Q H locs M n0 s0 pc ls st := by
  obtain ⟨hx, hb, hrt, hml, hown, hts, hlk, hnm, hK, hO, hbs, hov0⟩ := C0
  have hov := ov_cat hov0
  obtain ⟨len, hd, hz⟩ := hd
  obtain ⟨rfl, rfl⟩ := hz rfl
  unfold step1 at h
  dsimp only at h
  split at h
  · cases h
    exact lv_ishl hx hb hd (kk _ _ _ hH hl hX)
  · cases h

theorem s_ishr {st : List Value}  (hd : DD q (.ishr) pc nx) (h : step1 q.2.2.2.2.1 (decide (q.1.name = "<init>")) (.ishr) pc nx L st M = some f) (C0 : Ctx w X q p s m args meth c) (hH : Hp w M s.heap H locs) (hl : lvh w ls q.2.2.1 L) (hX : mX M = X) (hn0 : n0 ≤ mn M) (hs0 : s0 ≤ ms M) (hc : mn f.2.2.2 - n0 ≤ R.cells) (hs : ms f.2.2.2 - s0 ≤ R.slots) (kk : KK w X q p l e R s m args below meth c Q n0 s0 f) : GG w p l e R s m args below meth c Q H locs M n0 s0 pc ls st := by
  obtain ⟨hx, hb, hrt, hml, hown, hts, hlk, hnm, hK, hO, hbs, hov0⟩ := C0
  have hov := ov_cat hov0
  obtain ⟨len, hd, hz⟩ := hd
  obtain ⟨rfl, rfl⟩ := hz rfl
  unfold step1 at h
  dsimp only at h
  split at h
  · cases h
    exact lv_ishr hx hb hd (kk _ _ _ hH hl hX)
  · cases h

theorem s_iand {st : List Value}  (hd : DD q (.iand) pc nx) (h : step1 q.2.2.2.2.1 (decide (q.1.name = "<init>")) (.iand) pc nx L st M = some f) (C0 : Ctx w X q p s m args meth c) (hH : Hp w M s.heap H locs) (hl : lvh w ls q.2.2.1 L) (hX : mX M = X) (hn0 : n0 ≤ mn M) (hs0 : s0 ≤ ms M) (hc : mn f.2.2.2 - n0 ≤ R.cells) (hs : ms f.2.2.2 - s0 ≤ R.slots) (kk : KK w X q p l e R s m args below meth c Q n0 s0 f) : GG w p l e R s m args below meth c Q H locs M n0 s0 pc ls st := by
  obtain ⟨hx, hb, hrt, hml, hown, hts, hlk, hnm, hK, hO, hbs, hov0⟩ := C0
  have hov := ov_cat hov0
  obtain ⟨len, hd, hz⟩ := hd
  obtain ⟨rfl, rfl⟩ := hz rfl
  unfold step1 at h
  dsimp only at h
  split at h
  · cases h
    exact lv_iand hx hb hd (kk _ _ _ hH hl hX)
  · cases h

theorem s_ior {st : List Value}  (hd : DD q (.ior) pc nx) (h : step1 q.2.2.2.2.1 (decide (q.1.name = "<init>")) (.ior) pc nx L st M = some f) (C0 : Ctx w X q p s m args meth c) (hH : Hp w M s.heap H locs) (hl : lvh w ls q.2.2.1 L) (hX : mX M = X) (hn0 : n0 ≤ mn M) (hs0 : s0 ≤ ms M) (hc : mn f.2.2.2 - n0 ≤ R.cells) (hs : ms f.2.2.2 - s0 ≤ R.slots) (kk : KK w X q p l e R s m args below meth c Q n0 s0 f) : GG w p l e R s m args below meth c Q H locs M n0 s0 pc ls st := by
  obtain ⟨hx, hb, hrt, hml, hown, hts, hlk, hnm, hK, hO, hbs, hov0⟩ := C0
  have hov := ov_cat hov0
  obtain ⟨len, hd, hz⟩ := hd
  obtain ⟨rfl, rfl⟩ := hz rfl
  unfold step1 at h
  dsimp only at h
  split at h
  · cases h
    exact lv_ior hx hb hd (kk _ _ _ hH hl hX)
  · cases h

theorem s_ixor {st : List Value}  (hd : DD q (.ixor) pc nx) (h : step1 q.2.2.2.2.1 (decide (q.1.name = "<init>")) (.ixor) pc nx L st M = some f) (C0 : Ctx w X q p s m args meth c) (hH : Hp w M s.heap H locs) (hl : lvh w ls q.2.2.1 L) (hX : mX M = X) (hn0 : n0 ≤ mn M) (hs0 : s0 ≤ ms M) (hc : mn f.2.2.2 - n0 ≤ R.cells) (hs : ms f.2.2.2 - s0 ≤ R.slots) (kk : KK w X q p l e R s m args below meth c Q n0 s0 f) : GG w p l e R s m args below meth c Q H locs M n0 s0 pc ls st := by
  obtain ⟨hx, hb, hrt, hml, hown, hts, hlk, hnm, hK, hO, hbs, hov0⟩ := C0
  have hov := ov_cat hov0
  obtain ⟨len, hd, hz⟩ := hd
  obtain ⟨rfl, rfl⟩ := hz rfl
  unfold step1 at h
  dsimp only at h
  split at h
  · cases h
    exact lv_ixor hx hb hd (kk _ _ _ hH hl hX)
  · cases h

theorem s_ladd {st : List Value}  (hd : DD q (.ladd) pc nx) (h : step1 q.2.2.2.2.1 (decide (q.1.name = "<init>")) (.ladd) pc nx L st M = some f) (C0 : Ctx w X q p s m args meth c) (hH : Hp w M s.heap H locs) (hl : lvh w ls q.2.2.1 L) (hX : mX M = X) (hn0 : n0 ≤ mn M) (hs0 : s0 ≤ ms M) (hc : mn f.2.2.2 - n0 ≤ R.cells) (hs : ms f.2.2.2 - s0 ≤ R.slots) (kk : KK w X q p l e R s m args below meth c Q n0 s0 f) : GG w p l e R s m args below meth c Q H locs M n0 s0 pc ls st := by
  obtain ⟨hx, hb, hrt, hml, hown, hts, hlk, hnm, hK, hO, hbs, hov0⟩ := C0
  have hov := ov_cat hov0
  obtain ⟨len, hd, hz⟩ := hd
  obtain ⟨rfl, rfl⟩ := hz rfl
  unfold step1 at h
  dsimp only at h
  split at h
  · cases h
    exact lv_ladd hx hb hd (kk _ _ _ hH hl hX)
  · cases h

theorem s_lmul {st : List Value}  (hd : DD q (.lmul) pc nx) (h : step1 q.2.2.2.2.1 (decide (q.1.name = "<init>")) (.lmul) pc nx L st M = some f) (C0 : Ctx w X q p s m args meth c) (hH : Hp w M s.heap H locs) (hl : lvh w ls q.2.2.1 L) (hX : mX M = X) (hn0 : n0 ≤ mn M) (hs0 : s0 ≤ ms M) (hc : mn f.2.2.2 - n0 ≤ R.cells) (hs : ms f.2.2.2 - s0 ≤ R.slots) (kk : KK w X q p l e R s m args below meth c Q n0 s0 f) : GG w p l e R s m args below meth c Q H locs M n0 s0 pc ls st := by
  obtain ⟨hx, hb, hrt, hml, hown, hts, hlk, hnm, hK, hO, hbs, hov0⟩ := C0
  have hov := ov_cat hov0
  obtain ⟨len, hd, hz⟩ := hd
  obtain ⟨rfl, rfl⟩ := hz rfl
  unfold step1 at h
  dsimp only at h
  split at h
  · cases h
    exact lv_lmul hx hb hd (kk _ _ _ hH hl hX)
  · cases h

theorem s_idiv {st : List Value}  (hd : DD q (.idiv) pc nx) (h : step1 q.2.2.2.2.1 (decide (q.1.name = "<init>")) (.idiv) pc nx L st M = some f) (C0 : Ctx w X q p s m args meth c) (hH : Hp w M s.heap H locs) (hl : lvh w ls q.2.2.1 L) (hX : mX M = X) (hn0 : n0 ≤ mn M) (hs0 : s0 ≤ ms M) (hc : mn f.2.2.2 - n0 ≤ R.cells) (hs : ms f.2.2.2 - s0 ≤ R.slots) (kk : KK w X q p l e R s m args below meth c Q n0 s0 f) : GG w p l e R s m args below meth c Q H locs M n0 s0 pc ls st := by
  obtain ⟨hx, hb, hrt, hml, hown, hts, hlk, hnm, hK, hO, hbs, hov0⟩ := C0
  have hov := ov_cat hov0
  obtain ⟨len, hd, hz⟩ := hd
  obtain ⟨rfl, rfl⟩ := hz rfl
  unfold step1 at h
  dsimp only at h
  split at h
  · split at h
    · cases h
    · rename_i hy
      cases h
      exact lv_idiv hx hb hd hy (kk _ _ _ hH hl hX)
  · cases h

theorem s_irem {st : List Value}  (hd : DD q (.irem) pc nx) (h : step1 q.2.2.2.2.1 (decide (q.1.name = "<init>")) (.irem) pc nx L st M = some f) (C0 : Ctx w X q p s m args meth c) (hH : Hp w M s.heap H locs) (hl : lvh w ls q.2.2.1 L) (hX : mX M = X) (hn0 : n0 ≤ mn M) (hs0 : s0 ≤ ms M) (hc : mn f.2.2.2 - n0 ≤ R.cells) (hs : ms f.2.2.2 - s0 ≤ R.slots) (kk : KK w X q p l e R s m args below meth c Q n0 s0 f) : GG w p l e R s m args below meth c Q H locs M n0 s0 pc ls st := by
  obtain ⟨hx, hb, hrt, hml, hown, hts, hlk, hnm, hK, hO, hbs, hov0⟩ := C0
  have hov := ov_cat hov0
  obtain ⟨len, hd, hz⟩ := hd
  obtain ⟨rfl, rfl⟩ := hz rfl
  unfold step1 at h
  dsimp only at h
  split at h
  · split at h
    · cases h
    · rename_i hy
      cases h
      exact lv_irem hx hb hd hy (kk _ _ _ hH hl hX)
  · cases h

theorem s_ineg {st : List Value}  (hd : DD q (.ineg) pc nx) (h : step1 q.2.2.2.2.1 (decide (q.1.name = "<init>")) (.ineg) pc nx L st M = some f) (C0 : Ctx w X q p s m args meth c) (hH : Hp w M s.heap H locs) (hl : lvh w ls q.2.2.1 L) (hX : mX M = X) (hn0 : n0 ≤ mn M) (hs0 : s0 ≤ ms M) (hc : mn f.2.2.2 - n0 ≤ R.cells) (hs : ms f.2.2.2 - s0 ≤ R.slots) (kk : KK w X q p l e R s m args below meth c Q n0 s0 f) : GG w p l e R s m args below meth c Q H locs M n0 s0 pc ls st := by
  obtain ⟨hx, hb, hrt, hml, hown, hts, hlk, hnm, hK, hO, hbs, hov0⟩ := C0
  have hov := ov_cat hov0
  obtain ⟨len, hd, hz⟩ := hd
  obtain ⟨rfl, rfl⟩ := hz rfl
  unfold step1 at h
  dsimp only at h
  split at h
  · cases h
    exact lv_ineg hx hb hd (kk _ _ _ hH hl hX)
  · cases h

theorem s_iushr {st : List Value}  (hd : DD q (.iushr) pc nx) (h : step1 q.2.2.2.2.1 (decide (q.1.name = "<init>")) (.iushr) pc nx L st M = some f) (C0 : Ctx w X q p s m args meth c) (hH : Hp w M s.heap H locs) (hl : lvh w ls q.2.2.1 L) (hX : mX M = X) (hn0 : n0 ≤ mn M) (hs0 : s0 ≤ ms M) (hc : mn f.2.2.2 - n0 ≤ R.cells) (hs : ms f.2.2.2 - s0 ≤ R.slots) (kk : KK w X q p l e R s m args below meth c Q n0 s0 f) : GG w p l e R s m args below meth c Q H locs M n0 s0 pc ls st := by
  obtain ⟨hx, hb, hrt, hml, hown, hts, hlk, hnm, hK, hO, hbs, hov0⟩ := C0
  have hov := ov_cat hov0
  obtain ⟨len, hd, hz⟩ := hd
  obtain ⟨rfl, rfl⟩ := hz rfl
  unfold step1 at h
  dsimp only at h
  split at h
  · cases h
    exact lv_iushr hx hb hd rfl (kk _ _ _ hH hl hX)
  · cases h

theorem s_i2l {st : List Value}  (hd : DD q (.i2l) pc nx) (h : step1 q.2.2.2.2.1 (decide (q.1.name = "<init>")) (.i2l) pc nx L st M = some f) (C0 : Ctx w X q p s m args meth c) (hH : Hp w M s.heap H locs) (hl : lvh w ls q.2.2.1 L) (hX : mX M = X) (hn0 : n0 ≤ mn M) (hs0 : s0 ≤ ms M) (hc : mn f.2.2.2 - n0 ≤ R.cells) (hs : ms f.2.2.2 - s0 ≤ R.slots) (kk : KK w X q p l e R s m args below meth c Q n0 s0 f) : GG w p l e R s m args below meth c Q H locs M n0 s0 pc ls st := by
  obtain ⟨hx, hb, hrt, hml, hown, hts, hlk, hnm, hK, hO, hbs, hov0⟩ := C0
  have hov := ov_cat hov0
  obtain ⟨len, hd, hz⟩ := hd
  obtain ⟨rfl, rfl⟩ := hz rfl
  unfold step1 at h
  dsimp only at h
  split at h
  · cases h
    exact lv_i2l hx hb hd rfl (kk _ _ _ hH hl hX)
  · cases h

theorem s_l2i {st : List Value}  (hd : DD q (.l2i) pc nx) (h : step1 q.2.2.2.2.1 (decide (q.1.name = "<init>")) (.l2i) pc nx L st M = some f) (C0 : Ctx w X q p s m args meth c) (hH : Hp w M s.heap H locs) (hl : lvh w ls q.2.2.1 L) (hX : mX M = X) (hn0 : n0 ≤ mn M) (hs0 : s0 ≤ ms M) (hc : mn f.2.2.2 - n0 ≤ R.cells) (hs : ms f.2.2.2 - s0 ≤ R.slots) (kk : KK w X q p l e R s m args below meth c Q n0 s0 f) : GG w p l e R s m args below meth c Q H locs M n0 s0 pc ls st := by
  obtain ⟨hx, hb, hrt, hml, hown, hts, hlk, hnm, hK, hO, hbs, hov0⟩ := C0
  have hov := ov_cat hov0
  obtain ⟨len, hd, hz⟩ := hd
  obtain ⟨rfl, rfl⟩ := hz rfl
  unfold step1 at h
  dsimp only at h
  split at h
  · cases h
    exact lv_l2i hx hb hd rfl (kk _ _ _ hH hl hX)
  · cases h

theorem s_i2b {st : List Value}  (hd : DD q (.i2b) pc nx) (h : step1 q.2.2.2.2.1 (decide (q.1.name = "<init>")) (.i2b) pc nx L st M = some f) (C0 : Ctx w X q p s m args meth c) (hH : Hp w M s.heap H locs) (hl : lvh w ls q.2.2.1 L) (hX : mX M = X) (hn0 : n0 ≤ mn M) (hs0 : s0 ≤ ms M) (hc : mn f.2.2.2 - n0 ≤ R.cells) (hs : ms f.2.2.2 - s0 ≤ R.slots) (kk : KK w X q p l e R s m args below meth c Q n0 s0 f) : GG w p l e R s m args below meth c Q H locs M n0 s0 pc ls st := by
  obtain ⟨hx, hb, hrt, hml, hown, hts, hlk, hnm, hK, hO, hbs, hov0⟩ := C0
  have hov := ov_cat hov0
  obtain ⟨len, hd, hz⟩ := hd
  obtain ⟨rfl, rfl⟩ := hz rfl
  unfold step1 at h
  dsimp only at h
  split at h
  · cases h
    exact lv_i2b hx hb hd rfl (kk _ _ _ hH hl hX)
  · cases h

theorem s_i2c {st : List Value}  (hd : DD q (.i2c) pc nx) (h : step1 q.2.2.2.2.1 (decide (q.1.name = "<init>")) (.i2c) pc nx L st M = some f) (C0 : Ctx w X q p s m args meth c) (hH : Hp w M s.heap H locs) (hl : lvh w ls q.2.2.1 L) (hX : mX M = X) (hn0 : n0 ≤ mn M) (hs0 : s0 ≤ ms M) (hc : mn f.2.2.2 - n0 ≤ R.cells) (hs : ms f.2.2.2 - s0 ≤ R.slots) (kk : KK w X q p l e R s m args below meth c Q n0 s0 f) : GG w p l e R s m args below meth c Q H locs M n0 s0 pc ls st := by
  obtain ⟨hx, hb, hrt, hml, hown, hts, hlk, hnm, hK, hO, hbs, hov0⟩ := C0
  have hov := ov_cat hov0
  obtain ⟨len, hd, hz⟩ := hd
  obtain ⟨rfl, rfl⟩ := hz rfl
  unfold step1 at h
  dsimp only at h
  split at h
  · cases h
    exact lv_i2c hx hb hd rfl (kk _ _ _ hH hl hX)
  · cases h

theorem s_lcmp {st : List Value}  (hd : DD q (.lcmp) pc nx) (h : step1 q.2.2.2.2.1 (decide (q.1.name = "<init>")) (.lcmp) pc nx L st M = some f) (C0 : Ctx w X q p s m args meth c) (hH : Hp w M s.heap H locs) (hl : lvh w ls q.2.2.1 L) (hX : mX M = X) (hn0 : n0 ≤ mn M) (hs0 : s0 ≤ ms M) (hc : mn f.2.2.2 - n0 ≤ R.cells) (hs : ms f.2.2.2 - s0 ≤ R.slots) (kk : KK w X q p l e R s m args below meth c Q n0 s0 f) : GG w p l e R s m args below meth c Q H locs M n0 s0 pc ls st := by
  obtain ⟨hx, hb, hrt, hml, hown, hts, hlk, hnm, hK, hO, hbs, hov0⟩ := C0
  have hov := ov_cat hov0
  obtain ⟨len, hd, hz⟩ := hd
  obtain ⟨rfl, rfl⟩ := hz rfl
  unfold step1 at h
  dsimp only at h
  split at h
  · cases h
    exact W.lcmp hx hb hd (kk _ _ _ hH hl hX)
  · cases h

theorem s_dup {st : List Value}  (hd : DD q (.dup) pc nx) (h : step1 q.2.2.2.2.1 (decide (q.1.name = "<init>")) (.dup) pc nx L st M = some f) (C0 : Ctx w X q p s m args meth c) (hH : Hp w M s.heap H locs) (hl : lvh w ls q.2.2.1 L) (hX : mX M = X) (hn0 : n0 ≤ mn M) (hs0 : s0 ≤ ms M) (hc : mn f.2.2.2 - n0 ≤ R.cells) (hs : ms f.2.2.2 - s0 ≤ R.slots) (kk : KK w X q p l e R s m args below meth c Q n0 s0 f) : GG w p l e R s m args below meth c Q H locs M n0 s0 pc ls st := by
  obtain ⟨hx, hb, hrt, hml, hown, hts, hlk, hnm, hK, hO, hbs, hov0⟩ := C0
  have hov := ov_cat hov0
  obtain ⟨len, hd, hz⟩ := hd
  obtain ⟨rfl, rfl⟩ := hz rfl
  unfold step1 at h
  dsimp only at h
  split at h
  · split at h
    · rename_i hk
      cases h
      exact lv_dup hx hb hd (by rw [cv_cat hov]; exact hk) (kk _ _ _ hH hl hX)
    · cases h
  · cases h

theorem s_pop {st : List Value}  (hd : DD q (.pop) pc nx) (h : step1 q.2.2.2.2.1 (decide (q.1.name = "<init>")) (.pop) pc nx L st M = some f) (C0 : Ctx w X q p s m args meth c) (hH : Hp w M s.heap H locs) (hl : lvh w ls q.2.2.1 L) (hX : mX M = X) (hn0 : n0 ≤ mn M) (hs0 : s0 ≤ ms M) (hc : mn f.2.2.2 - n0 ≤ R.cells) (hs : ms f.2.2.2 - s0 ≤ R.slots) (kk : KK w X q p l e R s m args below meth c Q n0 s0 f) : GG w p l e R s m args below meth c Q H locs M n0 s0 pc ls st := by
  obtain ⟨hx, hb, hrt, hml, hown, hts, hlk, hnm, hK, hO, hbs, hov0⟩ := C0
  have hov := ov_cat hov0
  obtain ⟨len, hd, hz⟩ := hd
  obtain ⟨rfl, rfl⟩ := hz rfl
  unfold step1 at h
  dsimp only at h
  split at h
  · split at h
    · rename_i hk
      cases h
      exact lv_pop hx hb hd (by rw [cv_cat hov]; exact hk) (kk _ _ _ hH hl hX)
    · cases h
  · cases h

theorem s_dup_x1 {st : List Value}  (hd : DD q (.dup_x1) pc nx) (h : step1 q.2.2.2.2.1 (decide (q.1.name = "<init>")) (.dup_x1) pc nx L st M = some f) (C0 : Ctx w X q p s m args meth c) (hH : Hp w M s.heap H locs) (hl : lvh w ls q.2.2.1 L) (hX : mX M = X) (hn0 : n0 ≤ mn M) (hs0 : s0 ≤ ms M) (hc : mn f.2.2.2 - n0 ≤ R.cells) (hs : ms f.2.2.2 - s0 ≤ R.slots) (kk : KK w X q p l e R s m args below meth c Q n0 s0 f) : GG w p l e R s m args below meth c Q H locs M n0 s0 pc ls st := by
  obtain ⟨hx, hb, hrt, hml, hown, hts, hlk, hnm, hK, hO, hbs, hov0⟩ := C0
  have hov := ov_cat hov0
  obtain ⟨len, hd, hz⟩ := hd
  obtain ⟨rfl, rfl⟩ := hz rfl
  unfold step1 at h
  dsimp only at h
  split at h
  · split at h
    · rename_i hk
      cases h
      exact lv_dup_x1 hx hb hd (by rw [cv_cat hov]; exact hk.1) (by rw [cv_cat hov]; exact hk.2) (kk _ _ _ hH hl hX)
    · cases h
  · cases h

theorem s_dup2 {st : List Value}  (hd : DD q (.dup2) pc nx) (h : step1 q.2.2.2.2.1 (decide (q.1.name = "<init>")) (.dup2) pc nx L st M = some f) (C0 : Ctx w X q p s m args meth c) (hH : Hp w M s.heap H locs) (hl : lvh w ls q.2.2.1 L) (hX : mX M = X) (hn0 : n0 ≤ mn M) (hs0 : s0 ≤ ms M) (hc : mn f.2.2.2 - n0 ≤ R.cells) (hs : ms f.2.2.2 - s0 ≤ R.slots) (kk : KK w X q p l e R s m args below meth c Q n0 s0 f) : GG w p l e R s m args below meth c Q H locs M n0 s0 pc ls st := by
  obtain ⟨hx, hb, hrt, hml, hown, hts, hlk, hnm, hK, hO, hbs, hov0⟩ := C0
  have hov := ov_cat hov0
  obtain ⟨len, hd, hz⟩ := hd
  obtain ⟨rfl, rfl⟩ := hz rfl
  unfold step1 at h
  dsimp only at h
  split at h
  · split at h
    · rename_i hk
      cases h
      exact lv_dup2_11 hx hb hd (by rw [cv_cat hov]; exact hk.1) (by rw [cv_cat hov]; exact hk.2) (kk _ _ _ hH hl hX)
    · cases h
  · cases h

theorem s_goto {st : List Value} {off : Int} (hd : DD q (.goto off) pc nx) (h : step1 q.2.2.2.2.1 (decide (q.1.name = "<init>")) (.goto off) pc nx L st M = some f) (C0 : Ctx w X q p s m args meth c) (hH : Hp w M s.heap H locs) (hl : lvh w ls q.2.2.1 L) (hX : mX M = X) (hn0 : n0 ≤ mn M) (hs0 : s0 ≤ ms M) (hc : mn f.2.2.2 - n0 ≤ R.cells) (hs : ms f.2.2.2 - s0 ≤ R.slots) (kk : KK w X q p l e R s m args below meth c Q n0 s0 f) : GG w p l e R s m args below meth c Q H locs M n0 s0 pc ls st := by
  obtain ⟨hx, hb, hrt, hml, hown, hts, hlk, hnm, hK, hO, hbs, hov0⟩ := C0
  have hov := ov_cat hov0
  obtain ⟨len, hd, hz⟩ := hd
  obtain ⟨rfl, rfl⟩ := hz rfl
  unfold step1 at h
  dsimp only at h
  split at h
  · rename_i ho
    cases h
    exact lv_goto hx hb hd (jmp_to ho) (kk _ _ _ hH hl hX)
  · cases h

theorem s_ifCond {st : List Value} {cd : ClassFile.Cond} {off : Int} (hd : DD q (.ifCond cd off) pc nx) (h : step1 q.2.2.2.2.1 (decide (q.1.name = "<init>")) (.ifCond cd off) pc nx L st M = some f) (C0 : Ctx w X q p s m args meth c) (hH : Hp w M s.heap H locs) (hl : lvh w ls q.2.2.1 L) (hX : mX M = X) (hn0 : n0 ≤ mn M) (hs0 : s0 ≤ ms M) (hc : mn f.2.2.2 - n0 ≤ R.cells) (hs : ms f.2.2.2 - s0 ≤ R.slots) (kk : KK w X q p l e R s m args below meth c Q n0 s0 f) : GG w p l e R s m args below meth c Q H locs M n0 s0 pc ls st := by
  obtain ⟨hx, hb, hrt, hml, hown, hts, hlk, hnm, hK, hO, hbs, hov0⟩ := C0
  have hov := ov_cat hov0
  obtain ⟨len, hd, hz⟩ := hd
  obtain ⟨rfl, rfl⟩ := hz rfl
  unfold step1 at h
  dsimp only at h
  split at h
  · split at h
    · rename_i ho
      split at h
      · rename_i hc1
        cases h
        cases cd <;> (simp only [cndOf, decide_eq_true_eq] at hc1) <;>
          first | exact lv_if_eq hx hb hd (jmp_to ho) (fun _ => kk _ _ _ hH hl hX) (fun z => by first | exact (z hc1).elim | exact (hc1 z).elim) | exact lv_if_ne hx hb hd (jmp_to ho) (fun _ => kk _ _ _ hH hl hX) (fun z => by first | exact (z hc1).elim | exact (hc1 z).elim) | exact lv_if_lt hx hb hd (jmp_to ho) (fun _ => kk _ _ _ hH hl hX) (fun z => by first | exact (z hc1).elim | exact (hc1 z).elim) | exact lv_if_ge hx hb hd (jmp_to ho) (fun _ => kk _ _ _ hH hl hX) (fun z => by first | exact (z hc1).elim | exact (hc1 z).elim) | exact lv_if_gt hx hb hd (jmp_to ho) (fun _ => kk _ _ _ hH hl hX) (fun z => by first | exact (z hc1).elim | exact (hc1 z).elim) | exact lv_if_le hx hb hd (jmp_to ho) (fun _ => kk _ _ _ hH hl hX) (fun z => by first | exact (z hc1).elim | exact (hc1 z).elim)
      · rename_i hc1
        cases h
        cases cd <;> (simp only [cndOf, decide_eq_true_eq] at hc1) <;>
          first | exact lv_if_eq hx hb hd (jmp_to ho) (fun z => by first | exact (z hc1).elim | exact (hc1 z).elim) (fun _ => kk _ _ _ hH hl hX) | exact lv_if_ne hx hb hd (jmp_to ho) (fun z => by first | exact (z hc1).elim | exact (hc1 z).elim) (fun _ => kk _ _ _ hH hl hX) | exact lv_if_lt hx hb hd (jmp_to ho) (fun z => by first | exact (z hc1).elim | exact (hc1 z).elim) (fun _ => kk _ _ _ hH hl hX) | exact lv_if_ge hx hb hd (jmp_to ho) (fun z => by first | exact (z hc1).elim | exact (hc1 z).elim) (fun _ => kk _ _ _ hH hl hX) | exact lv_if_gt hx hb hd (jmp_to ho) (fun z => by first | exact (z hc1).elim | exact (hc1 z).elim) (fun _ => kk _ _ _ hH hl hX) | exact lv_if_le hx hb hd (jmp_to ho) (fun z => by first | exact (z hc1).elim | exact (hc1 z).elim) (fun _ => kk _ _ _ hH hl hX)
    · cases h
  · cases h

theorem s_if_icmp {st : List Value} {cd : ClassFile.Cond} {off : Int} (hd : DD q (.if_icmp cd off) pc nx) (h : step1 q.2.2.2.2.1 (decide (q.1.name = "<init>")) (.if_icmp cd off) pc nx L st M = some f) (C0 : Ctx w X q p s m args meth c) (hH : Hp w M s.heap H locs) (hl : lvh w ls q.2.2.1 L) (hX : mX M = X) (hn0 : n0 ≤ mn M) (hs0 : s0 ≤ ms M) (hc : mn f.2.2.2 - n0 ≤ R.cells) (hs : ms f.2.2.2 - s0 ≤ R.slots) (kk : KK w X q p l e R s m args below meth c Q n0 s0 f) : GG w p l e R s m args below meth c Q H locs M n0 s0 pc ls st := by
  obtain ⟨hx, hb, hrt, hml, hown, hts, hlk, hnm, hK, hO, hbs, hov0⟩ := C0
  have hov := ov_cat hov0
  obtain ⟨len, hd, hz⟩ := hd
  obtain ⟨rfl, rfl⟩ := hz rfl
  unfold step1 at h
  dsimp only at h
  split at h
  · split at h
    · rename_i ho
      split at h
      · rename_i hc1
        cases h
        cases cd <;> (simp only [cndOf, decide_eq_true_eq] at hc1) <;>
          first | exact lv_icmp_eq hx hb hd (jmp_to ho) (fun _ => kk _ _ _ hH hl hX) (fun z => by first | exact (z hc1).elim | exact (hc1 z).elim) | exact lv_icmp_ne hx hb hd (jmp_to ho) (fun _ => kk _ _ _ hH hl hX) (fun z => by first | exact (z hc1).elim | exact (hc1 z).elim) | exact lv_icmp_lt hx hb hd (jmp_to ho) (fun _ => kk _ _ _ hH hl hX) (fun z => by first | exact (z hc1).elim | exact (hc1 z).elim) | exact lv_icmp_ge hx hb hd (jmp_to ho) (fun _ => kk _ _ _ hH hl hX) (fun z => by first | exact (z hc1).elim | exact (hc1 z).elim) | exact lv_icmp_gt hx hb hd (jmp_to ho) (fun _ => kk _ _ _ hH hl hX) (fun z => by first | exact (z hc1).elim | exact (hc1 z).elim) | exact lv_icmp_le hx hb hd (jmp_to ho) (fun _ => kk _ _ _ hH hl hX) (fun z => by first | exact (z hc1).elim | exact (hc1 z).elim)
      · rename_i hc1
        cases h
        cases cd <;> (simp only [cndOf, decide_eq_true_eq] at hc1) <;>
          first | exact lv_icmp_eq hx hb hd (jmp_to ho) (fun z => by first | exact (z hc1).elim | exact (hc1 z).elim) (fun _ => kk _ _ _ hH hl hX) | exact lv_icmp_ne hx hb hd (jmp_to ho) (fun z => by first | exact (z hc1).elim | exact (hc1 z).elim) (fun _ => kk _ _ _ hH hl hX) | exact lv_icmp_lt hx hb hd (jmp_to ho) (fun z => by first | exact (z hc1).elim | exact (hc1 z).elim) (fun _ => kk _ _ _ hH hl hX) | exact lv_icmp_ge hx hb hd (jmp_to ho) (fun z => by first | exact (z hc1).elim | exact (hc1 z).elim) (fun _ => kk _ _ _ hH hl hX) | exact lv_icmp_gt hx hb hd (jmp_to ho) (fun z => by first | exact (z hc1).elim | exact (hc1 z).elim) (fun _ => kk _ _ _ hH hl hX) | exact lv_icmp_le hx hb hd (jmp_to ho) (fun z => by first | exact (z hc1).elim | exact (hc1 z).elim) (fun _ => kk _ _ _ hH hl hX)
    · cases h
  · cases h

theorem s_ifnull {st : List Value} {off : Int} (hd : DD q (.ifnull off) pc nx) (h : step1 q.2.2.2.2.1 (decide (q.1.name = "<init>")) (.ifnull off) pc nx L st M = some f) (C0 : Ctx w X q p s m args meth c) (hH : Hp w M s.heap H locs) (hl : lvh w ls q.2.2.1 L) (hX : mX M = X) (hn0 : n0 ≤ mn M) (hs0 : s0 ≤ ms M) (hc : mn f.2.2.2 - n0 ≤ R.cells) (hs : ms f.2.2.2 - s0 ≤ R.slots) (kk : KK w X q p l e R s m args below meth c Q n0 s0 f) : GG w p l e R s m args below meth c Q H locs M n0 s0 pc ls st := by
  obtain ⟨hx, hb, hrt, hml, hown, hts, hlk, hnm, hK, hO, hbs, hov0⟩ := C0
  have hov := ov_cat hov0
  obtain ⟨len, hd, hz⟩ := hd
  obtain ⟨rfl, rfl⟩ := hz rfl
  unfold step1 at h
  dsimp only at h
  split at h
  · split at h
    · rename_i ho
      cases h
      exact lv_ifnullN hx hb hd (jmp_to ho) (kk _ _ _ hH hl hX)
    · cases h
  · cases h
    exact lv_ifnull hx hb hd (kk _ _ _ hH hl hX)
  · cases h

theorem s_ifnonnull {st : List Value} {off : Int} (hd : DD q (.ifnonnull off) pc nx) (h : step1 q.2.2.2.2.1 (decide (q.1.name = "<init>")) (.ifnonnull off) pc nx L st M = some f) (C0 : Ctx w X q p s m args meth c) (hH : Hp w M s.heap H locs) (hl : lvh w ls q.2.2.1 L) (hX : mX M = X) (hn0 : n0 ≤ mn M) (hs0 : s0 ≤ ms M) (hc : mn f.2.2.2 - n0 ≤ R.cells) (hs : ms f.2.2.2 - s0 ≤ R.slots) (kk : KK w X q p l e R s m args below meth c Q n0 s0 f) : GG w p l e R s m args below meth c Q H locs M n0 s0 pc ls st := by
  obtain ⟨hx, hb, hrt, hml, hown, hts, hlk, hnm, hK, hO, hbs, hov0⟩ := C0
  have hov := ov_cat hov0
  obtain ⟨len, hd, hz⟩ := hd
  obtain ⟨rfl, rfl⟩ := hz rfl
  unfold step1 at h
  dsimp only at h
  split at h
  · cases h
    exact lv_ifnonnullN hx hb hd (kk _ _ _ hH hl hX)
  · split at h
    · rename_i ho
      cases h
      exact lv_ifnonnull hx hb hd (jmp_to ho) (kk _ _ _ hH hl hX)
    · cases h
  · cases h

theorem s_tableswitch {st : List Value} {dflt lo hi : Int} {offs : Array Int} (hd : DD q (.tableswitch dflt lo hi offs) pc nx) (h : step1 q.2.2.2.2.1 (decide (q.1.name = "<init>")) (.tableswitch dflt lo hi offs) pc nx L st M = some f) (C0 : Ctx w X q p s m args meth c) (hH : Hp w M s.heap H locs) (hl : lvh w ls q.2.2.1 L) (hX : mX M = X) (hn0 : n0 ≤ mn M) (hs0 : s0 ≤ ms M) (hc : mn f.2.2.2 - n0 ≤ R.cells) (hs : ms f.2.2.2 - s0 ≤ R.slots) (kk : KK w X q p l e R s m args below meth c Q n0 s0 f) : GG w p l e R s m args below meth c Q H locs M n0 s0 pc ls st := by
  obtain ⟨hx, hb, hrt, hml, hown, hts, hlk, hnm, hK, hO, hbs, hov0⟩ := C0
  have hov := ov_cat hov0
  obtain ⟨len, hd, hz⟩ := hd
  unfold step1 at h
  dsimp only at h
  split at h
  · split at h
    · rename_i hr
      split at h
      · rename_i ho
        cases h
        exact lv_tableOut hx hb hd hr (jmp_to ho) (kk _ _ _ hH hl hX)
      · cases h
    · rename_i hr
      split at h
      · rename_i off hoff
        split at h
        · rename_i ho
          cases h
          exact lv_tableIn hx hb hd (fun z => hr (Or.inl z)) (fun z => hr (Or.inr z)) hoff (jmp_to ho) (kk _ _ _ hH hl hX)
        · cases h
      · cases h
  · cases h

theorem s_lookupswitch {st : List Value} {dflt : Int} {ps : Array (Int × Int)} (hd : DD q (.lookupswitch dflt ps) pc nx) (h : step1 q.2.2.2.2.1 (decide (q.1.name = "<init>")) (.lookupswitch dflt ps) pc nx L st M = some f) (C0 : Ctx w X q p s m args meth c) (hH : Hp w M s.heap H locs) (hl : lvh w ls q.2.2.1 L) (hX : mX M = X) (hn0 : n0 ≤ mn M) (hs0 : s0 ≤ ms M) (hc : mn f.2.2.2 - n0 ≤ R.cells) (hs : ms f.2.2.2 - s0 ≤ R.slots) (kk : KK w X q p l e R s m args below meth c Q n0 s0 f) : GG w p l e R s m args below meth c Q H locs M n0 s0 pc ls st := by
  obtain ⟨hx, hb, hrt, hml, hown, hts, hlk, hnm, hK, hO, hbs, hov0⟩ := C0
  have hov := ov_cat hov0
  obtain ⟨len, hd, hz⟩ := hd
  unfold step1 at h
  dsimp only at h
  split at h
  · split at h
    · rename_i hr
      cases h
      exact lv_lookup hx hb hd hr.1 rfl (jmp_to hr.2) (kk _ _ _ hH hl hX)
    · cases h
  · cases h

theorem s_ldc_w {st : List Value} {k : Nat} (hd : DD q (.ldc_w k) pc nx) (h : step1 q.2.2.2.2.1 (decide (q.1.name = "<init>")) (.ldc_w k) pc nx L st M = some f) (C0 : Ctx w X q p s m args meth c) (hH : Hp w M s.heap H locs) (hl : lvh w ls q.2.2.1 L) (hX : mX M = X) (hn0 : n0 ≤ mn M) (hs0 : s0 ≤ ms M) (hc : mn f.2.2.2 - n0 ≤ R.cells) (hs : ms f.2.2.2 - s0 ≤ R.slots) (kk : KK w X q p l e R s m args below meth c Q n0 s0 f) : GG w p l e R s m args below meth c Q H locs M n0 s0 pc ls st := by
  obtain ⟨hx, hb, hrt, hml, hown, hts, hlk, hnm, hK, hO, hbs, hov0⟩ := C0
  have hov := ov_cat hov0
  obtain ⟨len, hd, hz⟩ := hd
  obtain ⟨rfl, rfl⟩ := hz rfl
  unfold step1 at h
  dsimp only at h
  split at h
  · rename_i v hv
    cases h
    exact lv_ldcw hx hb hown (hts _ (hasW_mem (List.all_eq_true.mp ldcsI_ok _ (look_mem hv)))) hd (kk _ _ _ hH hl hX)
  · cases h

theorem s_ldc {st : List Value} {k : Nat} (hd : DD q (.ldc k) pc nx) (h : step1 q.2.2.2.2.1 (decide (q.1.name = "<init>")) (.ldc k) pc nx L st M = some f) (C0 : Ctx w X q p s m args meth c) (hH : Hp w M s.heap H locs) (hl : lvh w ls q.2.2.1 L) (hX : mX M = X) (hn0 : n0 ≤ mn M) (hs0 : s0 ≤ ms M) (hc : mn f.2.2.2 - n0 ≤ R.cells) (hs : ms f.2.2.2 - s0 ≤ R.slots) (kk : KK w X q p l e R s m args below meth c Q n0 s0 f) : GG w p l e R s m args below meth c Q H locs M n0 s0 pc ls st := by
  obtain ⟨hx, hb, hrt, hml, hown, hts, hlk, hnm, hK, hO, hbs, hov0⟩ := C0
  have hov := ov_cat hov0
  obtain ⟨len, hd, hz⟩ := hd
  obtain ⟨rfl, rfl⟩ := hz rfl
  unfold step1 at h
  dsimp only at h
  split at h
  · rename_i v hv
    cases h
    exact lv_ldc hx hb hown (hts _ (hasW_mem (List.all_eq_true.mp ldcsI_ok _ (look_mem hv)))) hd (kk _ _ _ hH hl hX)
  · split at h
    · rename_i hm
      cases h
      obtain ⟨-, -, -, -, -, ⟨kA, vA, f1, f2, f3, f4, f5, f6, f7⟩, -⟩ := hO
      have kk : W p l e R s m args below meth c H locs (mn M - n0) (ms M - s0) Q (F0 m _ ls (w.2.2.2 3 :: st.map (cv w))) := kk _ _ _ hH hl hX
      rw [f1] at kk
      have hR := f7 (q.2.2.2.2.1, k) (List.contains_iff_mem.mp hm)
      exact va_ldcS hx hb hown hR hd kk
    · cases h

theorem s_ldc2_w {st : List Value} {k : Nat} (hd : DD q (.ldc2_w k) pc nx) (h : step1 q.2.2.2.2.1 (decide (q.1.name = "<init>")) (.ldc2_w k) pc nx L st M = some f) (C0 : Ctx w X q p s m args meth c) (hH : Hp w M s.heap H locs) (hl : lvh w ls q.2.2.1 L) (hX : mX M = X) (hn0 : n0 ≤ mn M) (hs0 : s0 ≤ ms M) (hc : mn f.2.2.2 - n0 ≤ R.cells) (hs : ms f.2.2.2 - s0 ≤ R.slots) (kk : KK w X q p l e R s m args below meth c Q n0 s0 f) : GG w p l e R s m args below meth c Q H locs M n0 s0 pc ls st := by
  obtain ⟨hx, hb, hrt, hml, hown, hts, hlk, hnm, hK, hO, hbs, hov0⟩ := C0
  have hov := ov_cat hov0
  obtain ⟨len, hd, hz⟩ := hd
  obtain ⟨rfl, rfl⟩ := hz rfl
  unfold step1 at h
  dsimp only at h
  split at h
  · rename_i v hv
    cases h
    exact lv_ldc2 hx hb hown (hts _ (hasW_mem (List.all_eq_true.mp ldcsL_ok _ (look_mem hv)))) hd (kk _ _ _ hH hl hX)
  · cases h

end STEP
end
section
/-! STEPS that touch the memory -/
/-- the world behind a store into an own cell -/
theorem Hp.put {w : Wp} {M M' : Mem} {H0 H H1 : Heap} {locs locs1 : List Loc} {a : Nat} {e : va_E} (hH : Hp w M H0 H locs) (ha : a < mn M) (hn : mn M' = mn M) (hK : mK M' = mK M) (he : ent w M' a = e) (ho : ∀ j, j ≠ a → ent w M' j = ent w M j)
    (hb : ∀ k j, mK M k = 101 → fits .byte (.int (mI M' k j)) = true) (h1 : va_P w.2.1 classes ((wsM w M).set a (w.1 + a, e)) H1) (h2 : va_D (wA0 w) ((wsM w M).set a (w.1 + a, e))) (h3 : va_S (wA0 w) H0 H1 locs1) : Hp w M' H0 H1 locs1 := by
  rw [wsM_set hn he ho] at h1 h2
  exact ⟨h1, h2, h3, by rw [hK, hn]; exact hH.2.2.2.1, fun k j hk => hb k j (by rw [← hK]; exact hk)⟩
theorem fld_at {a b : Nat} {f : Nat × Nat × Nat × Nat} (h : flds.lookup (a, b) = some f) : ∃ r : vw_C, classes[f.1]? = some r ∧ f.2.1 < r.2.2 ∧ (f.2.2.1 = 0 → .fieldLink (oN a) b (r.2.1 f.2.1).1 (r.2.1 f.2.1).2.1 (r.2.1 f.2.1).2.2.1 ∈ ALL) ∧ (f.2.2.1 ≠ 0 → .fieldLinkNest (oN a) b (r.2.1 f.2.1).1 (r.2.1 f.2.1).2.1 (r.2.1 f.2.1).2.2.1 "PipelineSimulator" ∈ NEST) := by
  have h1 := List.all_eq_true.mp flds_ok _ (look_mem h)
  unfold fldOK at h1
  dsimp only at h1
  split at h1
  · rename_i r hr
    rw [Bool.and_eq_true, decide_eq_true_eq] at h1
    refine ⟨r, hr, h1.1, fun z => ?_, fun z => ?_⟩
    · rw [if_pos z] at h1
      exact hasW_mem h1.2
    · rw [if_neg z] at h1
      exact hasN_mem h1.2
  · cases h1
theorem cv_slot {w : Wp} {M : Mem} {ci a j : Nat} : cv w (slotA M ci a j) = slotV w M ci a j := by
  unfold slotA slotV
  generalize cty ci j = t
  split
  · rfl
  · exact cv_rfv w _
  · rename_i h4 h5
    split
    · exact absurd rfl h4
    · exact absurd rfl h5
    · rfl
section STEP7
variable {w : Wp} {X : Nat × (Nat → Int32)} {q : MT} {p : Program} {l : Launch} {e : Env} {R : Room} {s : State} {m : MethodId} {args : Array Value} {below : List Frame} {meth : Method} {c : Code} {H : Heap} {locs : List Loc} {Q : State → Prop} {M : Mem} {L : List (Option Value)} {ls : Array Slot} {pc nx n0 s0 : Nat} {f : Fr}
theorem s_getfield {st : List Value} {k : Nat} (hd : DD q (.getfield k) pc nx) (h : step1 q.2.2.2.2.1 (decide (q.1.name = "<init>")) (.getfield k) pc nx L st M = some f) (C0 : Ctx w X q p s m args meth c) (hH : Hp w M s.heap H locs) (hl : lvh w ls q.2.2.1 L) (hX : mX M = X) (hn0 : n0 ≤ mn M) (hs0 : s0 ≤ ms M) (hc : mn f.2.2.2 - n0 ≤ R.cells) (hs : ms f.2.2.2 - s0 ≤ R.slots) (kk : KK w X q p l e R s m args below meth c Q n0 s0 f) : GG w p l e R s m args below meth c Q H locs M n0 s0 pc ls st := by
  obtain ⟨hx, hb, hrt, hml, hown, hts, hlk, hnm, hK, hO, hbs, hov0⟩ := C0
  have hov := ov_cat hov0
  obtain ⟨len, hd, hz⟩ := hd
  obtain ⟨rfl, rfl⟩ := hz rfl
  unfold step1 at h
  dsimp only at h
  split at h
  · rename_i a st
    split at h
    · rename_i g hg
      split at h
      · rename_i hk
        cases h
        obtain ⟨r, hr, hj, hl1, hl2⟩ := fld_at hg
        have hci : g.1 < 14 := (List.getElem?_eq_some_iff.mp hr).1
        have ha : a < mn M := hH.2.2.2.1 a (by omega)
        obtain ⟨c1, c2, c3, c4⟩ := cls_ok _ r hr
        have he : (wsM w M)[a]? = some (w.1 + a, .inr (g.1, (List.range (cN g.1)).map (fun j => slotV w M g.1 a j))) := by rw [wsM_get ha, ent_obj hk hci]
        have kk : W p l e R s m args below meth c H locs (mn M - n0) (ms M - s0) Q (F0 m _ ls (cv w _ :: st.map (cv w))) := kk _ _ _ hH hl hX
        rw [cv_slot] at kk
        have hv : ((List.range (cN g.1)).map (fun j => slotV w M g.1 a j))[g.2.1]? = some (slotV w M g.1 a g.2.1) := map_get (by rw [c4]; exact hj)
        by_cases hn : g.2.2.1 = 0
        · exact va_get hx hb hts c1 hown hK hH.1 a he hr g.2.1 hj (hts _ (hl1 hn)) (fun _ z => z) hv hd kk
        · exact va_getN hx hb hts c1 hown hK hH.1 a he hr g.2.1 hj (hO.2.2.2.2.2.2.1 _ (hl2 hn)) (fun _ z => z) hv hd kk
      · cases h
    · cases h
  · rename_i st
    split at h
    · rename_i g hg
      cases h
      obtain ⟨-, -, -, -, -, ⟨kA, vA, f1, f2, f3, f4, f5, f6, f7⟩, -⟩ := hO
      have h1 := List.all_eq_true.mp sflds_ok _ (look_mem hg)
      dsimp only at h1
      show W p l e R s m args below meth c H locs (mn M - n0) (ms M - s0) Q (F0 m _ ls (w.2.2.2 3 :: st.map (cv w)))
      rw [f1]
      have kk := kk _ _ _ hH hl hX
      by_cases hz : g.1 = 0
      · rw [if_pos hz] at h1
        rw [if_pos hz] at kk
        have kk : W p l e R s m args below meth c H locs (mn M - n0) (ms M - s0) Q (F0 m _ ls (w.2.2.2 4 :: st.map (cv w))) := kk
        rw [f2] at kk
        exact vk_getf hx hb f5 hH.2.2.1 hown (hts _ (hasW_mem h1)) (fun _ z => z) hd kk
      · rw [if_neg hz] at h1
        rw [if_neg hz] at kk
        exact vk_getf hx hb f4 hH.2.2.1 hown (hts _ (hasW_mem h1)) (fun _ z => z) hd kk
    · cases h
  · cases h

theorem put_core {k a : Nat} {st : List Value} {g : Nat × Nat × Nat × Nat} {v : Value} {M' : Mem} (C0 : Ctx w X q p s m args meth c) (hH : Hp w M s.heap H locs) (hg : flds.lookup (q.2.2.2.2.1, k) = some g) (hk : mK M a = g.1 + 1) (hf : ffin g.1 g.2.1 = false ∨ (decide (q.1.name = "<init>") = true ∧ g.2.2.1 = 0 ∧ fdecl g.1 g.2.1 = oN q.2.2.2.2.1)) (hd : decode q.2.1 pc = .ok (.putfield k, 3))
    (hn : narrow (ftyOf g.1 g.2.1) v = v) (hfit : fits (ftyOf g.1 g.2.1) v = true) (hM : mn M' = mn M) (hKM : mK M' = mK M) (he : ent w M' a = .inr (g.1, ((List.range (cN g.1)).map (fun j => slotV w M g.1 a j)).set g.2.1 v)) (ho : ∀ j, j ≠ a → ent w M' j = ent w M j) (hby : ∀ k j, mK M k = 101 → fits .byte (.int (mI M' k j)) = true)
    (kk : ∀ (H' : Heap) (locs' : List Loc), Hp w M' s.heap H' locs' → W p l e R s m args below meth c H' locs' (mn M - n0) (ms M - s0) Q (F0 m (pc + 3) ls (st.map (cv w)))) : W p l e R s m args below meth c H locs (mn M - n0) (ms M - s0) Q (F0 m pc ls (v :: .ref (w.1 + a) :: st.map (cv w))) := by
  obtain ⟨hx, hb, hrt, hml, hown, hts, hlk, hnm, hK, hO, hbs, hov0⟩ := C0
  obtain ⟨r, hr, hj, hl1, hl2⟩ := fld_at hg
  have hci : g.1 < 14 := (List.getElem?_eq_some_iff.mp hr).1
  have ha : a < mn M := hH.2.2.2.1 a (by omega)
  obtain ⟨c1, c2, c3, c4⟩ := cls_ok _ r hr
  have hw : (wsM w M)[a]? = some (w.1 + a, .inr (g.1, (List.range (cN g.1)).map (fun j => slotV w M g.1 a j))) := by rw [wsM_get ha, ent_obj hk hci]
  have hlen : g.2.1 < ((List.range (cN g.1)).map (fun j => slotV w M g.1 a j)).length := by rw [List.length_map, List.length_range, c4]; exact hj
  have kk2 : ∀ (H1 : Heap) (locs1 : List Loc), va_P w.2.1 classes ((wsM w M).set a (w.1 + a, .inr (g.1, ((List.range (cN g.1)).map (fun j => slotV w M g.1 a j)).set g.2.1 v))) H1 → va_D (wA0 w) ((wsM w M).set a (w.1 + a, .inr (g.1, ((List.range (cN g.1)).map (fun j => slotV w M g.1 a j)).set g.2.1 v))) → va_S (wA0 w) s.heap H1 locs1 → W p l e R s m args below meth c H1 locs1 (mn M - n0) (ms M - s0) Q (F0 m (pc + 3) ls (st.map (cv w))) := fun H1 locs1 h1 h2 h3 => kk H1 locs1 (hH.put ha hM hKM he ho hby h1 h2 h3)
  have hfn : ffin g.1 g.2.1 = (r.2.1 g.2.1).2.2.2 := by unfold ffin; rw [hr]
  have hfd : fdecl g.1 g.2.1 = (r.2.1 g.2.1).1 := by unfold fdecl; rw [hr]
  by_cases hn1 : g.2.2.1 = 0
  · by_cases hff : (r.2.1 g.2.1).2.2.2 = false
    · exact va_put hx hb hts c1 (ftyOf g.1) c2 c3 hown hK hH.1 hH.2.1 hH.2.2.1 a hw hr g.2.1 hj (hts _ (hl1 hn1)) (fun _ z => z) hff (c2 _ hj) hn hfit hlen hd kk2
    · have hff : (r.2.1 g.2.1).2.2.2 = true := by cases hq : (r.2.1 g.2.1).2.2.2 <;> simp_all
      have hf2 := hf.resolve_left (by rw [hfn, hff]; exact fun z => by cases z)
      exact va_putF hx hb hts c1 (ftyOf g.1) c2 c3 hown hK hH.1 hH.2.1 hH.2.2.1 a hw hr g.2.1 hj (hts _ (hl1 hn1)) (fun _ z => z) hff (hnm (of_decide_eq_true hf2.1)) (by rw [← hfd]; exact hf2.2.2) (c2 _ hj) hn hfit hlen hd kk2
  · have hff : (r.2.1 g.2.1).2.2.2 = false := by
      rcases hf with h | h
      · rw [← hfn]; exact h
      · exact absurd h.2.1 hn1
    exact va_putN hx hb hts c1 (ftyOf g.1) c2 c3 hown hK hH.1 hH.2.1 hH.2.2.1 a hw hr g.2.1 hj (hO.2.2.2.2.2.2.1 _ (hl2 hn1)) (fun _ z => z) hff (c2 _ hj) hn hfit hlen hd kk2
theorem slot_wI {j0 : Nat} {ci a j : Nat} {x : Int32} (h : cty ci j ≠ 4 ∧ cty ci j ≠ 5) (hj : j < cN ci) : ((List.range (cN ci)).map (fun j => slotV w M ci a j)).set j (.int x) = (List.range (cN ci)).map (fun i => slotV w (wI M a j x) ci a i) := by
  refine map_set hj ?_ (fun i hi => ?_)
  · unfold slotV
    split
    · rename_i z; exact absurd z h.1
    · rename_i z; exact absurd z h.2
    · exact congrArg Value.int (if_pos ⟨rfl, rfl⟩)
  · have h1 : mI (wI M a j x) a i = mI M a i := if_neg (fun z => hi z.2)
    unfold slotV
    rw [h1]
    rfl
theorem slot_wJ {ci a j : Nat} {x : Int64} (h : cty ci j = 4) (hj : j < cN ci) : ((List.range (cN ci)).map (fun j => slotV w M ci a j)).set j (.long x) = (List.range (cN ci)).map (fun i => slotV w (wJ M a j x) ci a i) := by
  refine map_set hj ?_ (fun i hi => ?_)
  · unfold slotV
    rw [h]
    exact congrArg Value.long (if_pos ⟨rfl, rfl⟩)
  · have h1 : mJ (wJ M a j x) a i = mJ M a i := if_neg (fun z => hi z.2)
    unfold slotV
    rw [h1]
    rfl
theorem slot_wR {ci a j b : Nat} (h : cty ci j = 5) (hj : j < cN ci) : ((List.range (cN ci)).map (fun j => slotV w M ci a j)).set j (.ref (w.1 + b)) = (List.range (cN ci)).map (fun i => slotV w (wR M a j (some b)) ci a i) := by
  refine map_set hj ?_ (fun i hi => ?_)
  · have h1 : mR (wR M a j (some b)) a j = some b := if_pos ⟨rfl, rfl⟩
    unfold slotV
    rw [h, h1]
    rfl
  · have h1 : mR (wR M a j (some b)) a i = mR M a i := if_neg (fun z => hi z.2)
    unfold slotV
    rw [h1]
    rfl
theorem byte_wI {a j k j' : Nat} {x : Int32} (h : mK M k = 101 → fits .byte (.int (mI M k j')) = true) (hx : mK M a = 101 → fits .byte (.int x) = true) (hk : mK M k = 101) : fits .byte (.int (mI (wI M a j x) k j')) = true := by
  show fits .byte (.int (u2 M.1 a j x k j')) = true
  unfold u2
  split
  · rename_i z
    exact hx (by rw [← z.1]; exact hk)
  · exact h hk
theorem s_putfield {st : List Value} {k : Nat} (hd : DD q (.putfield k) pc nx) (h : step1 q.2.2.2.2.1 (decide (q.1.name = "<init>")) (.putfield k) pc nx L st M = some f) (C0 : Ctx w X q p s m args meth c) (hH : Hp w M s.heap H locs) (hl : lvh w ls q.2.2.1 L) (hX : mX M = X) (hn0 : n0 ≤ mn M) (hs0 : s0 ≤ ms M) (hc : mn f.2.2.2 - n0 ≤ R.cells) (hs : ms f.2.2.2 - s0 ≤ R.slots) (kk : KK w X q p l e R s m args below meth c Q n0 s0 f) : GG w p l e R s m args below meth c Q H locs M n0 s0 pc ls st := by
  obtain ⟨hx, hb, hrt, hml, hown, hts, hlk, hnm, hK, hO, hbs, hov0⟩ := C0
  have hov := ov_cat hov0
  obtain ⟨len, hd, hz⟩ := hd
  obtain ⟨rfl, rfl⟩ := hz rfl
  unfold step1 at h
  dsimp only at h
  split at h
  · rename_i v a st
    split at h
    · rename_i g hg
      split at h
      · rename_i hk
        obtain ⟨r, hr, hj, hl1, hl2⟩ := fld_at hg
        have hci : g.1 < 14 := (List.getElem?_eq_some_iff.mp hr).1
        obtain ⟨c1, c2, c3, c4⟩ := cls_ok _ r hr
        have hct := cty_ok hr hj
        have hjN : g.2.1 < cN g.1 := by rw [c4]; exact hj
        have C0 : Ctx w X q p s m args meth c := ⟨hx, hb, hrt, hml, hown, hts, hlk, hnm, hK, hO, hbs, hov0⟩
        have hko : ∀ {M' : Mem}, mK M' = mK M → ent w M' a = .inr (g.1, (List.range (cN g.1)).map (fun j => slotV w M' g.1 a j)) := fun hz => ent_obj (by rw [hz]; exact hk.1) hci
        have hb101 : ∀ x : Int32, mK M a = 101 → fits .byte (.int x) = true := fun x z => by rw [hk.1] at z; omega
        split at h
        · rename_i x hc0
          cases h
          rw [hc0] at hct
          have ht : ftyOf g.1 g.2.1 = .int := by cases hq : ftyOf g.1 g.2.1 <;> rw [hq] at hct <;> first | rfl | cases hct
          exact put_core (st := st) (M' := wI M a g.2.1 x) (v := .int x) C0 hH hg hk.1 hk.2 hd (by rw [ht]; rfl) (by rw [ht]; rfl) rfl rfl (by rw [slot_wI (j0 := 0) (by rw [hc0]; decide) hjN]; exact hko (M' := wI M a g.2.1 x) rfl) (fun j hj => ent_wI_ne hj) (fun k j hk2 => byte_wI (hH.2.2.2.2 k j) (hb101 x) hk2) (fun H' locs' hH' => kk H' locs' ls hH' hl hX)
        · rename_i x hc0
          split at h
          · rename_i hnf
            cases h
            rw [hc0] at hct
            have ht : ftyOf g.1 g.2.1 = .boolean := by cases hq : ftyOf g.1 g.2.1 <;> rw [hq] at hct <;> first | rfl | cases hct
            exact put_core (st := st) (M' := wI M a g.2.1 x) (v := .int x) C0 hH hg hk.1 hk.2 hd (by rw [ht]; exact congrArg Value.int hnf.1) (by rw [ht]; exact hnf.2) rfl rfl (by rw [slot_wI (j0 := 0) (by rw [hc0]; decide) hjN]; exact hko (M' := wI M a g.2.1 x) rfl) (fun j hj => ent_wI_ne hj) (fun k j hk2 => byte_wI (hH.2.2.2.2 k j) (hb101 x) hk2) (fun H' locs' hH' => kk H' locs' ls hH' hl hX)
          · cases h
        · rename_i x hc0
          split at h
          · rename_i hnf
            cases h
            rw [hc0] at hct
            have ht : ftyOf g.1 g.2.1 = .byte := by cases hq : ftyOf g.1 g.2.1 <;> rw [hq] at hct <;> first | rfl | cases hct
            exact put_core (st := st) (M' := wI M a g.2.1 x) (v := .int x) C0 hH hg hk.1 hk.2 hd (by rw [ht]; exact congrArg Value.int hnf.1) (by rw [ht]; exact hnf.2) rfl rfl (by rw [slot_wI (j0 := 0) (by rw [hc0]; decide) hjN]; exact hko (M' := wI M a g.2.1 x) rfl) (fun j hj => ent_wI_ne hj) (fun k j hk2 => byte_wI (hH.2.2.2.2 k j) (hb101 x) hk2) (fun H' locs' hH' => kk H' locs' ls hH' hl hX)
          · cases h
        · rename_i x hc0
          cases h
          rw [hc0] at hct
          have ht : ftyOf g.1 g.2.1 = .long := by cases hq : ftyOf g.1 g.2.1 <;> rw [hq] at hct <;> first | rfl | cases hct
          exact put_core (st := st) (M' := wJ M a g.2.1 x) (v := .long x) C0 hH hg hk.1 hk.2 hd (by rw [ht]; rfl) (by rw [ht]; rfl) rfl rfl (by rw [slot_wJ hc0 hjN]; exact hko (M' := wJ M a g.2.1 x) rfl) (fun j hj => ent_wJ_ne hj) (fun k j hk2 => hH.2.2.2.2 k j hk2) (fun H' locs' hH' => kk H' locs' ls hH' hl hX)
        · rename_i b hc0
          cases h
          rw [hc0] at hct
          have ht : (∃ n, ftyOf g.1 g.2.1 = .object n) ∨ ∃ t, ftyOf g.1 g.2.1 = .array t := by cases hq : ftyOf g.1 g.2.1 <;> rw [hq] at hct <;> first | exact Or.inl ⟨_, rfl⟩ | exact Or.inr ⟨_, rfl⟩ | cases hct
          exact put_core (st := st) (M' := wR M a g.2.1 (some b)) (v := .ref (w.1 + b)) C0 hH hg hk.1 hk.2 hd (by rcases ht with ⟨n, ht⟩ | ⟨t, ht⟩ <;> rw [ht] <;> rfl) (by rcases ht with ⟨n, ht⟩ | ⟨t, ht⟩ <;> rw [ht] <;> rfl) rfl rfl (by rw [slot_wR hc0 hjN]; exact hko (M' := wR M a g.2.1 (some b)) rfl) (fun j hj => ent_wR_ne hj) (fun k j hk2 => hH.2.2.2.2 k j hk2) (fun H' locs' hH' => kk H' locs' ls hH' hl hX)
        · cases h
      · cases h
    · cases h
  · cases h

theorem s_getstatic {st : List Value} {k : Nat} (hd : DD q (.getstatic k) pc nx) (h : step1 q.2.2.2.2.1 (decide (q.1.name = "<init>")) (.getstatic k) pc nx L st M = some f) (C0 : Ctx w X q p s m args meth c) (hH : Hp w M s.heap H locs) (hl : lvh w ls q.2.2.1 L) (hX : mX M = X) (hn0 : n0 ≤ mn M) (hs0 : s0 ≤ ms M) (hc : mn f.2.2.2 - n0 ≤ R.cells) (hs : ms f.2.2.2 - s0 ≤ R.slots) (kk : KK w X q p l e R s m args below meth c Q n0 s0 f) : GG w p l e R s m args below meth c Q H locs M n0 s0 pc ls st := by
  obtain ⟨hx, hb, hrt, hml, hown, hts, hlk, hnm, hK, hO, hbs, hov0⟩ := C0
  have hov := ov_cat hov0
  obtain ⟨len, hd, hz⟩ := hd
  obtain ⟨rfl, rfl⟩ := hz rfl
  unfold step1 at h
  dsimp only at h
  split at h
  · rename_i g hg
    cases h
    obtain ⟨-, ⟨t1, b1, b2, b3⟩, ⟨t2, c1, c2, c3⟩, d1, ⟨v, e1, e2, e3⟩, -⟩ := hO
    have h1 := List.all_eq_true.mp stats_ok _ (look_mem hg)
    dsimp only at h1
    have h1 := hts _ (hasW_mem h1)
    have kk : W p l e R s m args below meth c H locs (mn M - n0) (ms M - s0) Q (F0 m _ ls (cv w (statV g.1) :: st.map (cv w))) := kk _ _ _ hH hl hX
    obtain ⟨g1, g2⟩ := g
    dsimp only at h1 kk
    match g1, h1, kk with
    | 0, h1, kk => exact va_gets hx hb d1 hH.2.2.1 hown h1 (fun _ z => z) hd kk
    | 1, h1, kk =>
      have kk : W p l e R s m args below meth c H locs (mn M - n0) (ms M - s0) Q (F0 m _ ls (w.2.2.2 5 :: st.map (cv w))) := kk
      rw [e1] at kk
      exact va_gets hx hb e3 hH.2.2.1 hown h1 (fun _ z => z) hd kk
    | 2, h1, kk =>
      have kk : W p l e R s m args below meth c H locs (mn M - n0) (ms M - s0) Q (F0 m _ ls (w.2.2.2 1 :: st.map (cv w))) := kk
      rw [b1] at kk
      exact va_gets hx hb b2 hH.2.2.1 hown h1 (fun _ z => z) hd kk
    | n + 3, h1, kk =>
      have kk : W p l e R s m args below meth c H locs (mn M - n0) (ms M - s0) Q (F0 m _ ls (w.2.2.2 2 :: st.map (cv w))) := kk
      rw [c1] at kk
      exact va_gets hx hb c2 hH.2.2.1 hown h1 (fun _ z => z) hd kk
  · cases h

theorem s_iaload {st : List Value}  (hd : DD q (.iaload) pc nx) (h : step1 q.2.2.2.2.1 (decide (q.1.name = "<init>")) (.iaload) pc nx L st M = some f) (C0 : Ctx w X q p s m args meth c) (hH : Hp w M s.heap H locs) (hl : lvh w ls q.2.2.1 L) (hX : mX M = X) (hn0 : n0 ≤ mn M) (hs0 : s0 ≤ ms M) (hc : mn f.2.2.2 - n0 ≤ R.cells) (hs : ms f.2.2.2 - s0 ≤ R.slots) (kk : KK w X q p l e R s m args below meth c Q n0 s0 f) : GG w p l e R s m args below meth c Q H locs M n0 s0 pc ls st := by
  obtain ⟨hx, hb, hrt, hml, hown, hts, hlk, hnm, hK, hO, hbs, hov0⟩ := C0
  have hov := ov_cat hov0
  obtain ⟨len, hd, hz⟩ := hd
  obtain ⟨rfl, rfl⟩ := hz rfl
  unfold step1 at h
  dsimp only at h
  split at h
  · rename_i j a st
    split at h
    · rename_i hk
      cases h
      have ha : a < mn M := hH.2.2.2.1 a (by omega)
      exact va_iald hx hb hK hH.1 a 0 (by rw [wsM_get ha, ent_arrI hk.1 (by omega) (by omega)]) rfl (inR_in hk.2) hd (kk _ _ _ hH hl hX)
    · cases h
  · rename_i j st
    split at h
    · rename_i hk
      cases h
      obtain ⟨⟨b, a1, a2, a3, a4⟩, -⟩ := hO
      show W p l e R s m args below meth c H locs (mn M - n0) (ms M - s0) Q (F0 m _ ls (.int j :: w.2.2.2 0 :: st.map (cv w)))
      rw [a1]
      subst hX
      exact va_sld hx hb a4 a3 (Nat.not_le.mpr a2) hH.2.2.1 (inR_in hk) hd (kk _ _ _ hH hl rfl)
    · cases h
  · cases h

theorem s_iastore {st : List Value}  (hd : DD q (.iastore) pc nx) (h : step1 q.2.2.2.2.1 (decide (q.1.name = "<init>")) (.iastore) pc nx L st M = some f) (C0 : Ctx w X q p s m args meth c) (hH : Hp w M s.heap H locs) (hl : lvh w ls q.2.2.1 L) (hX : mX M = X) (hn0 : n0 ≤ mn M) (hs0 : s0 ≤ ms M) (hc : mn f.2.2.2 - n0 ≤ R.cells) (hs : ms f.2.2.2 - s0 ≤ R.slots) (kk : KK w X q p l e R s m args below meth c Q n0 s0 f) : GG w p l e R s m args below meth c Q H locs M n0 s0 pc ls st := by
  obtain ⟨hx, hb, hrt, hml, hown, hts, hlk, hnm, hK, hO, hbs, hov0⟩ := C0
  have hov := ov_cat hov0
  obtain ⟨len, hd, hz⟩ := hd
  obtain ⟨rfl, rfl⟩ := hz rfl
  unfold step1 at h
  dsimp only at h
  split at h
  · rename_i x j a st
    split at h
    · rename_i hk
      cases h
      have ha : a < mn M := hH.2.2.2.1 a (by omega)
      refine va_iast hx hb hK hH.1 hH.2.1 hH.2.2.1 a 0 (by rw [wsM_get ha, ent_arrI hk.1 (by omega) (by omega)]) rfl (inR_in hk.2) hd (fun H1 locs1 h1 h2 h3 => kk H1 locs1 ls (hH.put ha rfl rfl ?_ (fun j hj => ent_wI_ne hj) (fun k j' hk2 => byte_wI (hH.2.2.2.2 k j') (fun z => by rw [hk.1] at z; omega) hk2) h1 h2 h3) hl hX)
      rw [← u2_row]
      exact ent_arrI (M := wI M a j.toNatClampNeg x) hk.1 (by omega) (by omega)
    · cases h
  · cases h

theorem s_baload {st : List Value}  (hd : DD q (.baload) pc nx) (h : step1 q.2.2.2.2.1 (decide (q.1.name = "<init>")) (.baload) pc nx L st M = some f) (C0 : Ctx w X q p s m args meth c) (hH : Hp w M s.heap H locs) (hl : lvh w ls q.2.2.1 L) (hX : mX M = X) (hn0 : n0 ≤ mn M) (hs0 : s0 ≤ ms M) (hc : mn f.2.2.2 - n0 ≤ R.cells) (hs : ms f.2.2.2 - s0 ≤ R.slots) (kk : KK w X q p l e R s m args below meth c Q n0 s0 f) : GG w p l e R s m args below meth c Q H locs M n0 s0 pc ls st := by
  obtain ⟨hx, hb, hrt, hml, hown, hts, hlk, hnm, hK, hO, hbs, hov0⟩ := C0
  have hov := ov_cat hov0
  obtain ⟨len, hd, hz⟩ := hd
  obtain ⟨rfl, rfl⟩ := hz rfl
  unfold step1 at h
  dsimp only at h
  split at h
  · rename_i j a st
    split at h
    · rename_i hk
      cases h
      have ha : a < mn M := hH.2.2.2.1 a (by omega)
      rcases hk.1 with hk1 | hk1
      · exact va_bald hx hb hK hH.1 a 1 (by rw [wsM_get ha, ent_arrI hk1 (by omega) (by omega)]) rfl (inR_in hk.2) hd (kk _ _ _ hH hl hX)
      · exact va_zald hx hb hK hH.1 a 2 (by rw [wsM_get ha, ent_arrI hk1 (by omega) (by omega)]) rfl (inR_in hk.2) hd (kk _ _ _ hH hl hX)
    · cases h
  · rename_i j k st
    split at h
    · rename_i hk
      cases h
      obtain ⟨-, ⟨t1, b1, b2, b3⟩, ⟨t2, c1, c2, c3⟩, -, -, ⟨kA, vA, f1, f2, f3, f4, f5, f6, f7⟩, -⟩ := hO
      have kk := kk _ _ _ hH hl hX
      obtain ⟨hk1, hk2⟩ := hk
      have hk2 := inR_in hk2
      show W p l e R s m args below meth c H locs (mn M - n0) (ms M - s0) Q (F0 m _ ls (.int j :: w.2.2.2 k :: st.map (cv w)))
      rcases hk1 with rfl | rfl | rfl
      · rw [b1]
        exact va_tb hx hb b3 hH.2.2.1 hk2 rfl hd kk
      · rw [c1]
        exact va_tb hx hb c3 hH.2.2.1 hk2 rfl hd kk
      · rw [f2]
        exact va_tb hx hb f6 hH.2.2.1 hk2 rfl hd kk
    · cases h
  · cases h

theorem fits_nar (x : Int32) : fits .byte (.int (vp_nar .byte x)) = true := by
  rw [vp_nar_byte]
  exact pk_fb x
theorem s_bastore {st : List Value}  (hd : DD q (.bastore) pc nx) (h : step1 q.2.2.2.2.1 (decide (q.1.name = "<init>")) (.bastore) pc nx L st M = some f) (C0 : Ctx w X q p s m args meth c) (hH : Hp w M s.heap H locs) (hl : lvh w ls q.2.2.1 L) (hX : mX M = X) (hn0 : n0 ≤ mn M) (hs0 : s0 ≤ ms M) (hc : mn f.2.2.2 - n0 ≤ R.cells) (hs : ms f.2.2.2 - s0 ≤ R.slots) (kk : KK w X q p l e R s m args below meth c Q n0 s0 f) : GG w p l e R s m args below meth c Q H locs M n0 s0 pc ls st := by
  obtain ⟨hx, hb, hrt, hml, hown, hts, hlk, hnm, hK, hO, hbs, hov0⟩ := C0
  have hov := ov_cat hov0
  obtain ⟨len, hd, hz⟩ := hd
  obtain ⟨rfl, rfl⟩ := hz rfl
  unfold step1 at h
  dsimp only at h
  split at h
  · rename_i x j a st
    split at h
    · rename_i hin
      split at h
      · rename_i hk
        cases h
        have ha : a < mn M := hH.2.2.2.1 a (by omega)
        refine va_bast hx hb hK hH.1 hH.2.1 hH.2.2.1 a 1 (by rw [wsM_get ha, ent_arrI hk (by omega) (by omega)]) rfl (inR_in hin) hd (fun H1 locs1 h1 h2 h3 => kk H1 locs1 ls (hH.put ha rfl rfl ?_ (fun j hj => ent_wI_ne hj) (fun k j' hk2 => byte_wI (hH.2.2.2.2 k j') (fun _ => fits_nar x) hk2) h1 h2 h3) hl hX)
        rw [← u2_row]
        exact ent_arrI (M := wI M a j.toNatClampNeg (vp_nar .byte x)) hk (by omega) (by omega)
      · split at h
        · rename_i hk
          cases h
          have ha : a < mn M := hH.2.2.2.1 a (by omega)
          refine va_zast hx hb hK hH.1 hH.2.1 hH.2.2.1 a 2 (by rw [wsM_get ha, ent_arrI hk (by omega) (by omega)]) rfl (inR_in hin) hd (fun H1 locs1 h1 h2 h3 => kk H1 locs1 ls (hH.put ha rfl rfl ?_ (fun j hj => ent_wI_ne hj) (fun k j' hk2 => byte_wI (hH.2.2.2.2 k j') (fun z => by rw [hk] at z; omega) hk2) h1 h2 h3) hl hX)
          rw [← u2_row]
          exact ent_arrI (M := wI M a j.toNatClampNeg (vp_nar .boolean x)) hk (by omega) (by omega)
        · cases h
    · cases h
  · cases h

theorem s_aaload {st : List Value}  (hd : DD q (.aaload) pc nx) (h : step1 q.2.2.2.2.1 (decide (q.1.name = "<init>")) (.aaload) pc nx L st M = some f) (C0 : Ctx w X q p s m args meth c) (hH : Hp w M s.heap H locs) (hl : lvh w ls q.2.2.1 L) (hX : mX M = X) (hn0 : n0 ≤ mn M) (hs0 : s0 ≤ ms M) (hc : mn f.2.2.2 - n0 ≤ R.cells) (hs : ms f.2.2.2 - s0 ≤ R.slots) (kk : KK w X q p l e R s m args below meth c Q n0 s0 f) : GG w p l e R s m args below meth c Q H locs M n0 s0 pc ls st := by
  obtain ⟨hx, hb, hrt, hml, hown, hts, hlk, hnm, hK, hO, hbs, hov0⟩ := C0
  have hov := ov_cat hov0
  obtain ⟨len, hd, hz⟩ := hd
  obtain ⟨rfl, rfl⟩ := hz rfl
  unfold step1 at h
  dsimp only at h
  split at h
  · rename_i j a st
    split at h
    · rename_i hk
      cases h
      have ha : a < mn M := hH.2.2.2.1 a (by omega)
      have kk : W p l e R s m args below meth c H locs (mn M - n0) (ms M - s0) Q (F0 m _ ls (cv w (rfv (mR M a j.toNatClampNeg)) :: st.map (cv w))) := kk _ _ _ hH hl hX
      rw [cv_rfv] at kk
      rcases hk.1 with hk1 | hk1 | hk1
      · exact va_aldq hx hb hK hH.1 a 3 (f := fun i => rfb w.1 (mR M a i)) (by rw [wsM_get ha, ent_arrR hk1 (by omega)]) rfl (inR_in hk.2) hd kk
      · exact va_aldq hx hb hK hH.1 a 4 (f := fun i => rfb w.1 (mR M a i)) (by rw [wsM_get ha, ent_arrR hk1 (by omega)]) rfl (inR_in hk.2) hd kk
      · exact va_aldq hx hb hK hH.1 a 5 (f := fun i => rfb w.1 (mR M a i)) (by rw [wsM_get ha, ent_arrR hk1 (by omega)]) rfl (inR_in hk.2) hd kk
    · cases h
  · cases h

theorem s_aastore {st : List Value}  (hd : DD q (.aastore) pc nx) (h : step1 q.2.2.2.2.1 (decide (q.1.name = "<init>")) (.aastore) pc nx L st M = some f) (C0 : Ctx w X q p s m args meth c) (hH : Hp w M s.heap H locs) (hl : lvh w ls q.2.2.1 L) (hX : mX M = X) (hn0 : n0 ≤ mn M) (hs0 : s0 ≤ ms M) (hc : mn f.2.2.2 - n0 ≤ R.cells) (hs : ms f.2.2.2 - s0 ≤ R.slots) (kk : KK w X q p l e R s m args below meth c Q n0 s0 f) : GG w p l e R s m args below meth c Q H locs M n0 s0 pc ls st := by
  obtain ⟨hx, hb, hrt, hml, hown, hts, hlk, hnm, hK, hO, hbs, hov0⟩ := C0
  have hov := ov_cat hov0
  obtain ⟨len, hd, hz⟩ := hd
  obtain ⟨rfl, rfl⟩ := hz rfl
  unfold step1 at h
  dsimp only at h
  split at h
  · rename_i b j a st
    split at h
    · rename_i hk
      cases h
      obtain ⟨hk0, hin⟩ := hk
      have ha : a < mn M := hH.2.2.2.1 a (by omega)
      have hb2 : b < mn M := hH.2.2.2.1 b (by omega)
      have go : ∀ (kd : Nat), mK M a = kd → 103 ≤ kd → ∀ (H1 : Heap) (locs1 : List Loc), va_P w.2.1 classes ((wsM w M).set a (w.1 + a, .inl (w.2.2.1 kd, mL M a, .inr (.inr (.inr (.inr (va_up (fun i => rfb w.1 (mR M a i)) j.toNatClampNeg (some (w.1 + b))))))))) H1 → va_D (wA0 w) ((wsM w M).set a (w.1 + a, .inl (w.2.2.1 kd, mL M a, .inr (.inr (.inr (.inr (va_up (fun i => rfb w.1 (mR M a i)) j.toNatClampNeg (some (w.1 + b))))))))) → va_S (wA0 w) s.heap H1 locs1 → W p l e R s m args below meth c H1 locs1 (mn M - n0) (ms M - s0) Q (F0 m (pc + 1) ls (st.map (cv w))) := by
        intro kd hkd h103 H1 locs1 h1 h2 h3
        refine kk H1 locs1 ls (hH.put ha rfl rfl ?_ (fun j hj => ent_wR_ne hj) (fun k j' hk2 => hH.2.2.2.2 k j' hk2) h1 h2 h3) hl hX
        rw [← u2_rowR]
        exact ent_arrR (M := wR M a j.toNatClampNeg (some b)) hkd h103
      rcases hk0 with ⟨h1, h2⟩ | ⟨h1, h2⟩ | ⟨h1, h2⟩
      · exact va_astq hx hb hK hH.1 hH.2.1 hH.2.2.1 a 3 b 0 (r := (RX0, TX0, 7)) (f := fun i => rfb w.1 (mR M a i)) (by rw [wsM_get ha, ent_arrR h1 (by omega)]) rfl (by rw [wsM_get hb2, ent_obj (ci := 0) h2 (by omega)]) rfl (inR_in hin) hd (go 103 h1 (by omega))
      · exact va_astq hx hb hK hH.1 hH.2.1 hH.2.2.1 a 4 b 2 (r := (RX2, TX2, 7)) (f := fun i => rfb w.1 (mR M a i)) (by rw [wsM_get ha, ent_arrR h1 (by omega)]) rfl (by rw [wsM_get hb2, ent_obj (ci := 2) h2 (by omega)]) rfl (inR_in hin) hd (go 104 h1 (by omega))
      · exact va_astq hx hb hK hH.1 hH.2.1 hH.2.2.1 a 5 b 5 (r := (RX5, TX5, 14)) (f := fun i => rfb w.1 (mR M a i)) (by rw [wsM_get ha, ent_arrR h1 (by omega)]) rfl (by rw [wsM_get hb2, ent_obj (ci := 5) h2 (by omega)]) rfl (inR_in hin) hd (go 105 h1 (by omega))
    · cases h
  · cases h

theorem s_arraylength {st : List Value}  (hd : DD q (.arraylength) pc nx) (h : step1 q.2.2.2.2.1 (decide (q.1.name = "<init>")) (.arraylength) pc nx L st M = some f) (C0 : Ctx w X q p s m args meth c) (hH : Hp w M s.heap H locs) (hl : lvh w ls q.2.2.1 L) (hX : mX M = X) (hn0 : n0 ≤ mn M) (hs0 : s0 ≤ ms M) (hc : mn f.2.2.2 - n0 ≤ R.cells) (hs : ms f.2.2.2 - s0 ≤ R.slots) (kk : KK w X q p l e R s m args below meth c Q n0 s0 f) : GG w p l e R s m args below meth c Q H locs M n0 s0 pc ls st := by
  obtain ⟨hx, hb, hrt, hml, hown, hts, hlk, hnm, hK, hO, hbs, hov0⟩ := C0
  have hov := ov_cat hov0
  obtain ⟨len, hd, hz⟩ := hd
  obtain ⟨rfl, rfl⟩ := hz rfl
  unfold step1 at h
  dsimp only at h
  split at h
  · rename_i a st
    split at h
    · rename_i hk
      cases h
      have ha : a < mn M := hH.2.2.2.1 a (by omega)
      have kk := kk _ _ _ hH hl hX
      have hcs : mK M a = 100 ∨ mK M a = 101 ∨ mK M a = 102 ∨ mK M a = 103 ∨ mK M a = 104 ∨ mK M a = 105 := by omega
      rcases hcs with h1 | h1 | h1 | h1 | h1 | h1
      · exact va_alen (x := (mL M a, .inl (mI M a))) hx hb hK hH.1 a 0 (by rw [wsM_get ha, ent_arrI h1 (by omega) (by omega)]) rfl rfl hd kk
      · exact va_alen (x := (mL M a, .inl (mI M a))) hx hb hK hH.1 a 1 (by rw [wsM_get ha, ent_arrI h1 (by omega) (by omega)]) rfl rfl hd kk
      · exact va_alen (x := (mL M a, .inl (mI M a))) hx hb hK hH.1 a 2 (by rw [wsM_get ha, ent_arrI h1 (by omega) (by omega)]) rfl rfl hd kk
      · exact va_alen (x := (mL M a, .inr (.inr (.inr (.inr (fun j => rfb w.1 (mR M a j))))))) hx hb hK hH.1 a 3 (by rw [wsM_get ha, ent_arrR h1 (by omega)]) rfl rfl hd kk
      · exact va_alen (x := (mL M a, .inr (.inr (.inr (.inr (fun j => rfb w.1 (mR M a j))))))) hx hb hK hH.1 a 4 (by rw [wsM_get ha, ent_arrR h1 (by omega)]) rfl rfl hd kk
      · exact va_alen (x := (mL M a, .inr (.inr (.inr (.inr (fun j => rfb w.1 (mR M a j))))))) hx hb hK hH.1 a 5 (by rw [wsM_get ha, ent_arrR h1 (by omega)]) rfl rfl hd kk
    · cases h
  · rename_i k st
    split at h
    · rename_i hk
      subst hk
      cases h
      obtain ⟨⟨b, a1, a2, a3, a4⟩, -⟩ := hO
      show W p l e R s m args below meth c H locs (mn M - n0) (ms M - s0) Q (F0 m _ ls (w.2.2.2 0 :: st.map (cv w)))
      rw [a1]
      subst hX
      exact va_slen hx hb a4 a3 (Nat.not_le.mpr a2) hH.2.2.1 hd (kk _ _ _ hH hl rfl)
    · split at h
      · rename_i hk
        subst hk
        cases h
        obtain ⟨-, -, -, -, -, ⟨kA, vA, f1, f2, f3, f4, f5, f6, f7⟩, -⟩ := hO
        show W p l e R s m args below meth c H locs (mn M - n0) (ms M - s0) Q (F0 m _ ls (w.2.2.2 4 :: st.map (cv w)))
        rw [f2]
        exact va_tlen hx hb f6 hH.2.2.1 rfl hd (kk _ _ _ hH hl hX)
      · cases h
  · cases h

theorem W.szb {cells slots : Nat} {g : JFrame} (k : H.size ≤ s.heap.size + cells → W p l e R s m args below meth c H locs cells slots Q g) : W p l e R s m args below meth c H locs cells slots Q g := by
  intro T hT Y
  have h := Y.heapSize
  rw [hT] at h
  exact k h T hT Y
theorem Hp.size (hH : Hp w M s.heap H locs) (hsb : s.heap.size = w.1 + n0) (hn0 : n0 ≤ mn M) (hle : H.size ≤ s.heap.size + (mn M - n0)) : H.size = w.1 + mn M := by
  have h1 := hH.2.2.1.1
  by_cases hz : mn M = 0
  · omega
  · have h2 := (hH.1 (mn M - 1) _ (wsM_get (by omega))).lt
    dsimp only at h2
    omega
theorem Hp.newc {kd len : Nat} {H1 : Heap} {e : va_E} (hH : Hp w M s.heap H locs) (hkd : kd ≠ 0) (he : ent w (nC M kd len) (mn M) = e) (h1 : va_P w.2.1 classes (wsM w M ++ [(w.1 + mn M, e)]) H1) (h2 : va_D (wA0 w) (wsM w M ++ [(w.1 + mn M, e)])) (h3 : va_S (wA0 w) s.heap H1 locs) : Hp w (nC M kd len) s.heap H1 locs := by
  rw [wsM_push (M' := nC M kd len) rfl he (fun j hj => ent_nC_ne hj)] at h1 h2
  refine ⟨h1, h2, h3, fun k hk => ?_, fun k j hk => ?_⟩
  · show k < mn M + 1
    by_cases hz : k = mn M
    · omega
    · have : mK (nC M kd len) k = mK M k := if_neg hz
      rw [this] at hk
      exact Nat.lt_succ_of_lt (hH.2.2.2.1 k hk)
  · by_cases hz : k = mn M
    · have : mI (nC M kd len) k j = 0 := if_pos hz
      rw [this]
      rfl
    · have h4 : mK (nC M kd len) k = mK M k := if_neg hz
      have h5 : mI (nC M kd len) k j = mI M k j := if_neg hz
      rw [h5]
      rw [h4] at hk
      exact hH.2.2.2.2 k j hk
theorem new_row {kd len : Nat} : mI (nC M kd len) (mn M) = fun _ => 0 := funext fun _ => if_pos rfl
theorem new_rowJ {kd len : Nat} : mJ (nC M kd len) (mn M) = fun _ => 0 := funext fun _ => if_pos rfl
theorem new_rowR {kd len : Nat} : mR (nC M kd len) (mn M) = fun _ => none := funext fun _ => if_pos rfl
theorem new_K {kd len : Nat} : mK (nC M kd len) (mn M) = kd := if_pos rfl
theorem new_L {kd len : Nat} : mL (nC M kd len) (mn M) = len := if_pos rfl
theorem Hp.kept {H1 : Heap} (hH : Hp w M s.heap H locs) (hz : H.size ≤ H1.size) (o1 : ∀ q : Nat, q < H.size → H1[q]? = H[q]?) : va_P w.2.1 classes (wsM w M) H1 ∧ va_S (wA0 w) s.heap H1 locs :=
  ⟨hH.1.kept (fun k x hx => o1 x.1 ((hH.1 k x hx).lt)), Nat.le_trans hH.2.2.1.1 hz, fun x h1 h2 => (o1 x (Nat.lt_of_lt_of_le h1 hH.2.2.1.1)).trans (hH.2.2.1.2.1 x h1 h2), hH.2.2.1.2.2⟩
theorem one_P {D : va_G} {cl : List vw_C} {a : Nat} {e : va_E} {H1 : Heap} (h : va_at D cl (a, e) H1) : va_P D cl [(a, e)] H1 := by
  intro k x hx
  have hz : k < 1 := (List.getElem?_eq_some_iff.mp hx).1
  rw [show k = 0 by omega] at hx
  cases hx
  exact h
theorem cty_dflt {ci j : Nat} {r : vw_C} (h : classes[ci]? = some r) (hj : j < r.2.2) {kd len : Nat} : defaultValue (ftyOf ci j) = slotV w (nC M kd len) ci (mn M) j := by
  have h1 := cty_ok h hj
  have hI : mI (nC M kd len) (mn M) j = 0 := if_pos rfl
  have hJ : mJ (nC M kd len) (mn M) j = 0 := if_pos rfl
  have hR : mR (nC M kd len) (mn M) j = none := if_pos rfl
  unfold slotV
  rw [hI, hJ, hR]
  generalize cty ci j = t at h1
  cases hq : ftyOf ci j <;> rw [hq] at h1 <;> (unfold ctyOK at h1; split at h1) <;> first | rfl | (rename_i z; cases z) | cases h1 | (rename_i z _; cases z)
theorem s_new {st : List Value} {k : Nat} (hd : DD q (.new k) pc nx) (h : step1 q.2.2.2.2.1 (decide (q.1.name = "<init>")) (.new k) pc nx L st M = some f) (C0 : Ctx w X q p s m args meth c) (hH : Hp w M s.heap H locs) (hl : lvh w ls q.2.2.1 L) (hX : mX M = X) (hsb : s.heap.size = w.1 + n0) (hn0 : n0 ≤ mn M) (hs0 : s0 ≤ ms M) (hc : mn f.2.2.2 - n0 ≤ R.cells) (hs : ms f.2.2.2 - s0 ≤ R.slots) (kk : KK w X q p l e R s m args below meth c Q n0 s0 f) : GG w p l e R s m args below meth c Q H locs M n0 s0 pc ls st := by
  obtain ⟨hx, hb, hrt, hml, hown, hts, hlk, hnm, hK, hO, hbs, hov0⟩ := C0
  have hov := ov_cat hov0
  obtain ⟨len, hd, hz⟩ := hd
  obtain ⟨rfl, rfl⟩ := hz rfl
  unfold step1 at h
  dsimp only at h
  split at h
  · rename_i g hg
    cases h
    refine W.szb (fun hle => ?_)
    have hsz := hH.size hsb hn0 hle
    have h1 := List.all_eq_true.mp news_ok _ (look_mem hg)
    unfold newOK at h1
    dsimp only at h1
    split at h1
    · rename_i r hr
      rw [Bool.and_eq_true, Bool.and_eq_true] at h1
      obtain ⟨⟨h1, h2⟩, h3⟩ := h1
      obtain ⟨c1, c2, c3, c4⟩ := cls_ok _ r hr
      have hci : g.1 < 14 := (List.getElem?_eq_some_iff.mp hr).1
      have hKn := hK.1 _ _ hr
      have hc : mn M + 1 - n0 ≤ R.cells := hc
      have hs : ms M + cN g.1 - s0 ≤ R.slots := hs
      refine W.newcK hx hb hown (hts _ (hasW_mem h1)) (hts _ (hasW_mem h2)) (hts _ (hasW_mem h3)) rfl hd (by omega) (by omega) hKn.2.1 hsz fun H1 kC hkC e1 z1 o1 => ?_
      have hk2 := hH.kept (H1 := H1) (by omega) (fun q hq => o1 q (by omega))
      have hnw : va_at w.2.1 classes (w.1 + mn M, .inr (g.1, (List.range (cN g.1)).map (fun j => slotV w (nC M (g.1 + 1) (cN g.1)) g.1 (mn M) j))) H1 := by
        refine ⟨r, hr, (u_born (ftyOf g.1) hts c1 hKn hkC e1 c2).to (fun j hj => ?_)⟩
        show _ = (((List.range (cN g.1)).map (fun j => slotV w (nC M (g.1 + 1) (cN g.1)) g.1 (mn M) j)).getD j .null)
        rw [List.getD_eq_getElem?_getD, map_get (by rw [c4]; exact hj)]
        exact cty_dflt hr hj
      have hnew := Hp.newc (M := M) (kd := g.1 + 1) (len := cN g.1) hH (by omega) (ent_obj new_K hci) (hk2.1.app (one_P hnw)) (hH.2.1.push hH.1 hsz.symm (by show w.1 ≤ w.1 + mn M; omega)) hk2.2
      refine W.cs (cells' := mn M + 1 - n0) (slots' := ms M + cN g.1 - s0) (by omega) (by omega) ?_
      exact kk H1 locs ls hnew hl hX
    · cases h1
  · cases h

theorem ac_int : Cond.arrayClass .int ∈ ALL := List.mem_filter.mpr ⟨by decide +kernel, rfl⟩
theorem ac_byte : Cond.arrayClass .byte ∈ ALL := List.mem_filter.mpr ⟨by decide +kernel, rfl⟩
theorem ac_bool : Cond.arrayClass .boolean ∈ ALL := List.mem_filter.mpr ⟨by decide +kernel, rfl⟩
theorem newa_core {x : Int32} {st : List Value} {at' : ArrayType} {kd t0 : Nat} {ty : FieldType} (hx : p.tables.exec = Jvm.exec) (hb : c.code = q.2.1) (hts : ∀ x ∈ ALL, x.before args s = true) (hK : va_K w.2.1 classes (tysW w) s) (hH : Hp w M s.heap H locs) (hty : newarray.typeOf at' = ty) (hac : Cond.arrayClass ty ∈ ALL) (ht : (tysW w)[t0]? = some (w.2.2.1 kd, ty)) (hkd : 100 ≤ kd ∧ kd < 103) (hdv : defaultValue ty = .int 0) (hob : ∀ U cA, va_RA U cA ty → U.vm.findClass ("[" ++ ty.toString) = some cA) (hcb : componentBytes ty ≤ 4)
    (hn : ¬ x < 0) (hN : x.toNatClampNeg ≤ 1000000) (hsz : H.size = w.1 + mn M) (hn0 : n0 ≤ mn M) (hs0 : s0 ≤ ms M) (hc : mn M + 1 - n0 ≤ R.cells) (hs : ms M + x.toNatClampNeg - s0 ≤ R.slots) (hd : decode q.2.1 pc = .ok (.newarray at', 2))
    (kk : ∀ (H' : Heap), Hp w (nC M kd x.toNatClampNeg) s.heap H' locs → W p l e R s m args below meth c H' locs (mn M + 1 - n0) (ms M + x.toNatClampNeg - s0) Q (F0 m (pc + 2) ls (.ref (w.1 + mn M) :: st.map (cv w)))) : W p l e R s m args below meth c H locs (mn M - n0) (ms M - s0) Q (F0 m pc ls (.int x :: st.map (cv w))) := by
  subst hty
  refine va_newaK hx hb (hts _ hac) rfl hd rfl hn rfl (Nat.le_trans (Nat.mul_le_mul hN hcb) (by omega)) (by omega) (by omega) hsz fun H1 cA e1 z1 o1 hAr hNm => ?_
  have hk2 := hH.kept (H1 := H1) (by omega) (fun q hq => o1 q (by omega))
  have hcA : cA = w.2.2.1 kd := by
    have h1 := hob _ _ (hK.2 _ _ ht).2
    rw [hNm] at h1
    exact Option.some.inj h1
  subst hcA
  have he : ent w (nC M kd x.toNatClampNeg) (mn M) = .inl (w.2.2.1 kd, x.toNatClampNeg, .inl (fun _ => 0)) := by
    rw [ent_arrI new_K hkd.1 hkd.2, new_L, new_row]
  have hnw : va_at w.2.1 classes (w.1 + mn M, .inl (w.2.2.1 kd, x.toNatClampNeg, .inl (fun _ => 0))) H1 := by
    show H1[_]? = some (vp_cell _ _)
    rw [vp_cell_i, e1, hdv]
  have hnew := Hp.newc (M := M) (kd := kd) (len := x.toNatClampNeg) hH (by omega) he (hk2.1.app (one_P hnw)) (hH.2.1.push hH.1 hsz.symm (by show w.1 ≤ w.1 + mn M; omega)) hk2.2
  refine W.cs (cells' := mn M + 1 - n0) (slots' := ms M + x.toNatClampNeg - s0) (by omega) (by omega) ?_
  exact kk H1 hnew
theorem s_newarray {st : List Value} {t : ArrayType} (hd : DD q (.newarray t) pc nx) (h : step1 q.2.2.2.2.1 (decide (q.1.name = "<init>")) (.newarray t) pc nx L st M = some f) (C0 : Ctx w X q p s m args meth c) (hH : Hp w M s.heap H locs) (hl : lvh w ls q.2.2.1 L) (hX : mX M = X) (hsb : s.heap.size = w.1 + n0) (hn0 : n0 ≤ mn M) (hs0 : s0 ≤ ms M) (hc : mn f.2.2.2 - n0 ≤ R.cells) (hs : ms f.2.2.2 - s0 ≤ R.slots) (kk : KK w X q p l e R s m args below meth c Q n0 s0 f) : GG w p l e R s m args below meth c Q H locs M n0 s0 pc ls st := by
  obtain ⟨hx, hb, hrt, hml, hown, hts, hlk, hnm, hK, hO, hbs, hov0⟩ := C0
  have hov := ov_cat hov0
  obtain ⟨len, hd, hz⟩ := hd
  obtain ⟨rfl, rfl⟩ := hz rfl
  unfold step1 at h
  dsimp only at h
  split at h
  · rename_i x st
    split at h
    · rename_i hk
      cases h
      refine W.szb (fun hle => ?_)
      have hsz := hH.size hsb hn0 hle
      cases t with
      | int => exact newa_core (kd := 100) (t0 := 0) (ty := .int) hx hb hts hK hH rfl ac_int rfl (by omega) rfl (fun U cA z => z) (by decide) hk.1 hk.2.1 hsz hn0 hs0 hc hs hd (fun H' hH' => kk H' locs ls hH' hl hX)
      | byte => exact newa_core (kd := 101) (t0 := 1) (ty := .byte) hx hb hts hK hH rfl ac_byte rfl (by omega) rfl (fun U cA z => z) (by decide) hk.1 hk.2.1 hsz hn0 hs0 hc hs hd (fun H' hH' => kk H' locs ls hH' hl hX)
      | boolean => exact newa_core (kd := 102) (t0 := 2) (ty := .boolean) hx hb hts hK hH rfl ac_bool rfl (by omega) rfl (fun U cA z => z) (by decide) hk.1 hk.2.1 hsz hn0 hs0 hc hs hd (fun H' hH' => kk H' locs ls hH' hl hX)
      | _ => exact absurd rfl hk.2.2
    · cases h
  · cases h

theorem anews_k : ∀ f ∈ anews, f.2.1 = 103 ∨ f.2.1 = 104 ∨ f.2.1 = 105 := by decide +kernel
theorem ak_ty (w : Wp) : ∀ kd, kd = 103 ∨ kd = 104 ∨ kd = 105 → (tysW w)[kd - 100]? = some (w.2.2.1 kd, .object (akC kd)) := by
  intro kd h
  rcases h with rfl | rfl | rfl <;> rfl
theorem s_anewarray {st : List Value} {k : Nat} (hd : DD q (.anewarray k) pc nx) (h : step1 q.2.2.2.2.1 (decide (q.1.name = "<init>")) (.anewarray k) pc nx L st M = some f) (C0 : Ctx w X q p s m args meth c) (hH : Hp w M s.heap H locs) (hl : lvh w ls q.2.2.1 L) (hX : mX M = X) (hsb : s.heap.size = w.1 + n0) (hn0 : n0 ≤ mn M) (hs0 : s0 ≤ ms M) (hc : mn f.2.2.2 - n0 ≤ R.cells) (hs : ms f.2.2.2 - s0 ≤ R.slots) (kk : KK w X q p l e R s m args below meth c Q n0 s0 f) : GG w p l e R s m args below meth c Q H locs M n0 s0 pc ls st := by
  obtain ⟨hx, hb, hrt, hml, hown, hts, hlk, hnm, hK, hO, hbs, hov0⟩ := C0
  have hov := ov_cat hov0
  obtain ⟨len, hd, hz⟩ := hd
  obtain ⟨rfl, rfl⟩ := hz rfl
  unfold step1 at h
  dsimp only at h
  split at h
  · rename_i x st
    split at h
    · rename_i g hg
      split at h
      · rename_i hk
        cases h
        refine W.szb (fun hle => ?_)
        have hsz := hH.size hsb hn0 hle
        have h1 := List.all_eq_true.mp anews_ok _ (look_mem hg)
        have hkd := anews_k _ (look_mem hg)
        unfold anewOK at h1
        dsimp only at h1 hkd
        rw [Bool.and_eq_true] at h1
        have hc : mn M + 1 - n0 ≤ R.cells := hc
        have hs : ms M + x.toNatClampNeg - s0 ≤ R.slots := hs
        have hao : (Cond.arrayOver (.object (akC g.1))).before args s = true := by
          obtain ⟨-, -, -, -, -, -, -, i1, i2, i3⟩ := hO
          rcases hkd with h | h | h <;> rw [h]
          · exact va_AO.use i1
          · exact va_AO.use i2
          · exact va_AO.use i3
        refine W.anew hx hb hown (hts _ (hasW_mem h1.1)) hao rfl hd rfl hk.1 (by omega) (by omega) (by omega) fun cA kA comp f1 f2 f3 f4 => ?_
        generalize hH1 : H.push ({ cls := cA, slots := Array.replicate x.toNatClampNeg .null, vm := .none } : Cell) = H1
        have z1 : H1.size = H.size + 1 := by rw [← hH1, Array.size_push]
        have e1 : H1[H.size]? = some (arrV cA x.toNatClampNeg (fun _ => .null)) := by rw [← hH1, Array.getElem?_push_size, ← arrV_new]
        have o1 : ∀ q : Nat, q < H.size → H1[q]? = H[q]? := fun q hq => by rw [← hH1, Array.getElem?_push, if_neg (Nat.ne_of_lt hq)]
        have hk2 := hH.kept (H1 := H1) (by omega) o1
        have hcA : cA = w.2.2.1 g.1 := by
          obtain ⟨kA2, comp2, -, -, -, h4⟩ := (hK.2 _ _ (ak_ty w g.1 hkd)).2
          rw [f1] at h4
          exact Option.some.inj h4
        subst hcA
        have he : ent w (nC M g.1 x.toNatClampNeg) (mn M) = .inl (w.2.2.1 g.1, x.toNatClampNeg, .inr (.inr (.inr (.inr (fun _ => none))))) := by
          rw [ent_arrR new_K (by omega), new_L, new_rowR]
          rfl
        have hnw : va_at w.2.1 classes (w.1 + mn M, .inl (w.2.2.1 g.1, x.toNatClampNeg, .inr (.inr (.inr (.inr (fun _ => none)))))) H1 := by
          show H1[_]? = some (vp_cell _ _)
          rw [vp_cell_q, ← hsz, e1]
          rfl
        have hnew := Hp.newc (M := M) (kd := g.1) (len := x.toNatClampNeg) hH (by omega) he (hk2.1.app (one_P hnw)) (hH.2.1.push hH.1 hsz.symm (by show w.1 ≤ w.1 + mn M; omega)) hk2.2
        refine W.cs (cells' := mn M + 1 - n0) (slots' := ms M + x.toNatClampNeg - s0) (by omega) (by omega) ?_
        rw [hsz]
        exact kk H1 locs ls hnew hl hX
      · cases h
    · cases h
  · cases h

end STEP7
end
section
/-! A RUN of the interpreter is a run of the machine -/
section DISP
variable {w : Wp} {X : Nat × (Nat → Int32)} {q : MT} {p : Program} {l : Launch} {e : Env} {R : Room} {s : State} {m : MethodId} {args : Array Value} {below : List Frame} {meth : Method} {c : Code} {H : Heap} {locs : List Loc} {Q : State → Prop} {M : Mem} {L : List (Option Value)} {ls : Array Slot} {pc nx n0 s0 : Nat} {f : Fr}
theorem step_all {st : List Value} {i : Instr} (hd : DD q i pc nx) (h : step1 q.2.2.2.2.1 (decide (q.1.name = "<init>")) i pc nx L st M = some f) (C0 : Ctx w X q p s m args meth c) (hH : Hp w M s.heap H locs) (hl : lvh w ls q.2.2.1 L) (hX : mX M = X) (hsb : s.heap.size = w.1 + n0) (hn0 : n0 ≤ mn M) (hs0 : s0 ≤ ms M) (hc : mn f.2.2.2 - n0 ≤ R.cells) (hs : ms f.2.2.2 - s0 ≤ R.slots) (kk : KK w X q p l e R s m args below meth c Q n0 s0 f) : GG w p l e R s m args below meth c Q H locs M n0 s0 pc ls st := by
  cases i with
  | iconst k => exact s_iconst hd h C0 hH hl hX hn0 hs0 hc hs kk
  | bipush k => exact s_bipush hd h C0 hH hl hX hn0 hs0 hc hs kk
  | sipush k => exact s_sipush hd h C0 hH hl hX hn0 hs0 hc hs kk
  | lconst k => exact s_lconst hd h C0 hH hl hX hn0 hs0 hc hs kk
  | aconst_null  => exact s_aconst_null hd h C0 hH hl hX hn0 hs0 hc hs kk
  | iload_n k => exact s_iload_n hd h C0 hH hl hX hn0 hs0 hc hs kk
  | iload k => exact s_iload hd h C0 hH hl hX hn0 hs0 hc hs kk
  | lload_n k => exact s_lload_n hd h C0 hH hl hX hn0 hs0 hc hs kk
  | lload k => exact s_lload hd h C0 hH hl hX hn0 hs0 hc hs kk
  | aload_n k => exact s_aload_n hd h C0 hH hl hX hn0 hs0 hc hs kk
  | aload k => exact s_aload hd h C0 hH hl hX hn0 hs0 hc hs kk
  | istore_n k => exact s_istore_n hd h C0 hH hl hX hn0 hs0 hc hs kk
  | istore k => exact s_istore hd h C0 hH hl hX hn0 hs0 hc hs kk
  | lstore_n k => exact s_lstore_n hd h C0 hH hl hX hn0 hs0 hc hs kk
  | lstore k => exact s_lstore hd h C0 hH hl hX hn0 hs0 hc hs kk
  | astore_n k => exact s_astore_n hd h C0 hH hl hX hn0 hs0 hc hs kk
  | astore k => exact s_astore hd h C0 hH hl hX hn0 hs0 hc hs kk
  | iinc k n => exact s_iinc hd h C0 hH hl hX hn0 hs0 hc hs kk
  | iadd  => exact s_iadd hd h C0 hH hl hX hn0 hs0 hc hs kk
  | isub  => exact s_isub hd h C0 hH hl hX hn0 hs0 hc hs kk
  | imul  => exact s_imul hd h C0 hH hl hX hn0 hs0 hc hs kk
  | ishl  => exact s_ishl hd h C0 hH hl hX hn0 hs0 hc hs kk
  | ishr  => exact s_ishr hd h C0 hH hl hX hn0 hs0 hc hs kk
  | iand  => exact s_iand hd h C0 hH hl hX hn0 hs0 hc hs kk
  | ior  => exact s_ior hd h C0 hH hl hX hn0 hs0 hc hs kk
  | ixor  => exact s_ixor hd h C0 hH hl hX hn0 hs0 hc hs kk
  | ladd  => exact s_ladd hd h C0 hH hl hX hn0 hs0 hc hs kk
  | lmul  => exact s_lmul hd h C0 hH hl hX hn0 hs0 hc hs kk
  | idiv  => exact s_idiv hd h C0 hH hl hX hn0 hs0 hc hs kk
  | irem  => exact s_irem hd h C0 hH hl hX hn0 hs0 hc hs kk
  | ineg  => exact s_ineg hd h C0 hH hl hX hn0 hs0 hc hs kk
  | iushr  => exact s_iushr hd h C0 hH hl hX hn0 hs0 hc hs kk
  | i2l  => exact s_i2l hd h C0 hH hl hX hn0 hs0 hc hs kk
  | l2i  => exact s_l2i hd h C0 hH hl hX hn0 hs0 hc hs kk
  | i2b  => exact s_i2b hd h C0 hH hl hX hn0 hs0 hc hs kk
  | i2c  => exact s_i2c hd h C0 hH hl hX hn0 hs0 hc hs kk
  | lcmp  => exact s_lcmp hd h C0 hH hl hX hn0 hs0 hc hs kk
  | dup  => exact s_dup hd h C0 hH hl hX hn0 hs0 hc hs kk
  | pop  => exact s_pop hd h C0 hH hl hX hn0 hs0 hc hs kk
  | dup_x1  => exact s_dup_x1 hd h C0 hH hl hX hn0 hs0 hc hs kk
  | dup2  => exact s_dup2 hd h C0 hH hl hX hn0 hs0 hc hs kk
  | goto off => exact s_goto hd h C0 hH hl hX hn0 hs0 hc hs kk
  | ifCond cd off => exact s_ifCond hd h C0 hH hl hX hn0 hs0 hc hs kk
  | if_icmp cd off => exact s_if_icmp hd h C0 hH hl hX hn0 hs0 hc hs kk
  | ifnull off => exact s_ifnull hd h C0 hH hl hX hn0 hs0 hc hs kk
  | ifnonnull off => exact s_ifnonnull hd h C0 hH hl hX hn0 hs0 hc hs kk
  | tableswitch dflt lo hi offs => exact s_tableswitch hd h C0 hH hl hX hn0 hs0 hc hs kk
  | lookupswitch dflt ps => exact s_lookupswitch hd h C0 hH hl hX hn0 hs0 hc hs kk
  | ldc_w k => exact s_ldc_w hd h C0 hH hl hX hn0 hs0 hc hs kk
  | ldc k => exact s_ldc hd h C0 hH hl hX hn0 hs0 hc hs kk
  | ldc2_w k => exact s_ldc2_w hd h C0 hH hl hX hn0 hs0 hc hs kk
  | getfield k => exact s_getfield hd h C0 hH hl hX hn0 hs0 hc hs kk
  | putfield k => exact s_putfield hd h C0 hH hl hX hn0 hs0 hc hs kk
  | getstatic k => exact s_getstatic hd h C0 hH hl hX hn0 hs0 hc hs kk
  | iaload  => exact s_iaload hd h C0 hH hl hX hn0 hs0 hc hs kk
  | iastore  => exact s_iastore hd h C0 hH hl hX hn0 hs0 hc hs kk
  | baload  => exact s_baload hd h C0 hH hl hX hn0 hs0 hc hs kk
  | bastore  => exact s_bastore hd h C0 hH hl hX hn0 hs0 hc hs kk
  | aaload  => exact s_aaload hd h C0 hH hl hX hn0 hs0 hc hs kk
  | aastore  => exact s_aastore hd h C0 hH hl hX hn0 hs0 hc hs kk
  | arraylength  => exact s_arraylength hd h C0 hH hl hX hn0 hs0 hc hs kk
  | new k => exact s_new hd h C0 hH hl hX hsb hn0 hs0 hc hs kk
  | newarray t => exact s_newarray hd h C0 hH hl hX hsb hn0 hs0 hc hs kk
  | anewarray k => exact s_anewarray hd h C0 hH hl hX hsb hn0 hs0 hc hs kk
  | _ => unfold step1 at h; cases h
end DISP
theorem step_mono {o : Nat} {ini : Bool} {i : Instr} {pc nx : Nat} {L : List (Option Value)} {st : List Value} {M : Mem} {f : Fr} (h : step1 o ini i pc nx L st M = some f) : mX f.2.2.2 = mX M ∧ mn M ≤ mn f.2.2.2 ∧ ms M ≤ ms f.2.2.2 := by
  unfold step1 at h
  repeat' split at h
  all_goals first | (cases h; done) | (cases h; refine ⟨rfl, ?_, ?_⟩ <;> first | exact Nat.le_refl _ | exact Nat.le_succ _ | exact Nat.le_add_right _ _)
theorem ev_mono : ∀ (n d mi pc : Nat) (L : List (Option Value)) (st : List Value) (M : Mem) (r : Option Value × Mem), ev n d mi pc L st M = some r → mX r.2 = mX M ∧ mn M ≤ mn r.2 ∧ ms M ≤ ms r.2 := by
  intro n
  induction n with
  | zero => intro d mi pc L st M r h; cases h
  | succ n ih =>
    intro d mi pc L st M r h
    unfold ev at h
    split at h
    · cases h
    · split at h
      · cases h
      · split at h
        · rename_i i nx _ _
          cases hr : retOK _ i st with
          | none => rw [hr] at h; cases h
          | some v => rw [hr] at h; cases h; exact ⟨rfl, Nat.le_refl _, Nat.le_refl _⟩
        · split at h
          · split at h
            · cases h
            · split at h
              · cases h
              · split at h
                · split at h
                  · split at h
                    · exact ih _ _ _ _ _ _ _ h
                    · cases h
                  · cases h
                · split at h
                  · split at h
                    · split at h
                      · have h2 := ih _ _ _ _ _ _ _ h
                        exact h2
                      · cases h
                    · cases h
                  · dsimp only at h
                    split at h
                    · split at h
                      · cases h
                      · split at h
                        · cases h
                        · split at h
                          · cases h
                          · rename_i v M1 h1
                            obtain ⟨a1, a2, a3⟩ := ih _ _ _ _ _ _ _ h1
                            obtain ⟨b1, b2, b3⟩ := ih _ _ _ _ _ _ _ h
                            exact ⟨b1.trans a1, Nat.le_trans a2 b2, Nat.le_trans a3 b3⟩
                    · cases h
          · split at h
            · cases h
            · rename_i f hf
              obtain ⟨a1, a2, a3⟩ := step_mono hf
              obtain ⟨b1, b2, b3⟩ := ih _ _ _ _ _ _ _ h
              exact ⟨b1.trans a1, Nat.le_trans a2 b2, Nat.le_trans a3 b3⟩
def lenOK (q : MT) : Bool := q.2.2.2.2.2.all (fun e => isSw e.2.1 || decide (e.2.2 = e.1 + ilen e.2.1))
theorem len_all : mtabL.all lenOK = true := by decide +kernel
theorem at_DD {mi pc nx : Nat} {q : MT} {i : Instr} (hq : mtabL[mi]? = some q) (h : q.2.2.2.2.2.lookup pc = some (i, nx)) : DD q i pc nx := by
  have hm := List.mem_of_getElem? hq
  have hi := look_mem h
  have h1 := List.all_eq_true.mp (mtabL_ok q hm).1 _ hi
  have h2 := List.all_eq_true.mp (List.all_eq_true.mp len_all q hm) _ hi
  dsimp only at h1 h2
  refine ⟨nx - pc, of_decide_eq_true h1, fun hs => ?_⟩
  rw [hs, Bool.false_or, decide_eq_true_eq] at h2
  exact ⟨by omega, h2⟩
/-- what a method leaves -/
def CQ (w : Wp) (v : Option Value) (M1 : Mem) : Array Value → State → Outcome → State → Prop := fun _ st o t => o = .returned (v.map (cv w)) ∧ (va_P w.2.1 classes (wsM w M1) t.heap ∧ va_D (wA0 w) (wsM w M1) ∧ (∀ k, mK M1 k ≠ 0 → k < mn M1) ∧ (∀ k j, mK M1 k = 101 → fits .byte (.int (mI M1 k j)) = true)) ∧ va_F (wA0 w) st t
/-- what a method finds -/
def CP (w : Wp) (X : Nat × (Nat → Int32)) (as : List Value) (M : Mem) : Array Value → State → Prop := fun a U => a = (as.map (cv w)).toArray ∧ (va_P w.2.1 classes (wsM w M) U.heap ∧ va_D (wA0 w) (wsM w M) ∧ (∀ k, mK M k ≠ 0 → k < mn M) ∧ (∀ k j, mK M k = 101 → fits .byte (.int (mI M k j)) = true)) ∧ U.heap.size = w.1 + mn M ∧ va_K w.2.1 classes (tysW w) U ∧ Old w X U U.heap
theorem CP_blind {w : Wp} {X : Nat × (Nat → Int32)} {as : List Value} {M : Mem} : FrameBlind (CP w X as M) := fun a U g mk h =>
  ⟨h.1, h.2.1, h.2.2.1, va_K.moved (u := U) (U := U.calling g mk a) (Vm.Alike.refl U.vm) h.2.2.2.1, Old.same (s := U) (U := U.calling g mk a) h.2.2.2.2 rfl⟩
theorem sl_one : ∀ (vs : List Value), cat1s vs = true → (lg_sl vs).length = vs.length
  | [], _ => rfl
  | v :: vs, h => by
    unfold cat1s at h
    rw [List.all_cons, Bool.and_eq_true, decide_eq_true_eq] at h
    have := sl_one vs h.2
    simp only [lg_sl, List.flatMap_cons, List.length_append, List.length_cons] at this ⊢
    rw [if_neg (by omega)]
    simp only [List.length_cons, List.length_nil]
    omega
theorem args_one : ∀ (vs : List Value) (k i : Nat) (v : Value), cat1s vs = true → vs[i]? = some v → (k + i, v) ∈ lv_args k vs
  | [], _, _, _, _, h => by simp at h
  | u :: vs, k, i, v, hc, h => by
    unfold cat1s at hc
    rw [List.all_cons, Bool.and_eq_true, decide_eq_true_eq] at hc
    cases i with
    | zero =>
      rw [List.getElem?_cons_zero] at h
      cases h
      exact List.mem_cons_self
    | succ i =>
      rw [List.getElem?_cons_succ] at h
      refine List.mem_cons_of_mem _ ?_
      rw [if_neg (by omega)]
      have := args_one vs (k + 1) i v hc.2 h
      rwa [show k + (i + 1) = k + 1 + i by omega]
theorem cat_cv {w : Wp} (ho : ∀ k, (w.2.2.2 k).category = 1) {vs : List Value} (h : cat1s vs = true) : cat1s (vs.map (cv w)) = true := by
  unfold cat1s at h ⊢
  rw [List.all_map]
  rw [List.all_eq_true] at h ⊢
  intro v hv
  have := h v hv
  show decide ((cv w v).category = 1) = true
  rw [cv_cat ho]
  exact this
theorem ent_lvh {w : Wp} (ho : ∀ k, (w.2.2.2 k).category = 1) {as : List Value} {nL : Nat} {ls : Array Slot} (hc : cat1s as = true) (hn : as.length ≤ nL) (h : lv_has ls nL (lv_args 0 (as.map (cv w)))) : lvh w ls nL (entL nL as) := by
  refine ⟨h.1, h.2.1, ?_, fun i v hv => ?_⟩
  · unfold entL
    rw [List.length_append, List.length_map, List.length_replicate]
    omega
  · unfold lget entL at hv
    by_cases hi : i < as.length
    · rw [List.getElem?_append_left (by rw [List.length_map]; exact hi), List.getElem?_map] at hv
      have hv2 : as[i]? = some v := by
        cases ha : as[i]? with
        | none => rw [ha] at hv; cases hv
        | some u => rw [ha] at hv; cases hv; rfl
      have h2 := args_one (as.map (cv w)) 0 i (cv w v) (cat_cv ho hc) (by rw [List.getElem?_map, hv2]; rfl)
      rw [Nat.zero_add] at h2
      exact h.2.2 _ h2
    · rw [List.getElem?_append_right (by rw [List.length_map]; omega), List.length_map] at hv
      rcases Nat.lt_or_ge (i - as.length) (nL - as.length) with q | q
      · rw [List.getElem?_replicate, if_pos q] at hv
        cases hv
      · rw [List.getElem?_eq_none (by rw [List.length_replicate]; exact q)] at hv
        cases hv
theorem catS_cv {w : Wp} (ho : ∀ k, (w.2.2.2 k).category = 1) (vs : List Value) : ((vs.map (cv w)).map fun v => v.category).sum = catS vs := by
  unfold catS
  congr 1
  rw [List.map_map]
  apply List.map_congr_left
  intro v _
  exact cv_cat ho v
section CALL
variable {w : Wp} {X : Nat × (Nat → Int32)} {q : MT} {p : Program} {l : Launch} {e : Env} {R : Room} {s : State} {m : MethodId} {args : Array Value} {below : List Frame} {meth : Method} {c : Code} {H : Heap} {locs : List Loc} {Q : State → Prop} {M M1 : Mem} {ls : Array Slot} {pc n0 s0 : Nat}
theorem call_go {v : Option Value} {a : Array Value} {cells slots mc ms' : Nat} {st0 rest : List Value} (hr : va_Run p l e R s m args below meth c H locs cells slots mc ms' (F0 m pc ls st0) rest (CQ w v M1 a) (wA0 w)) (hS : va_S (wA0 w) s.heap H locs)
    (kk : ∀ (H1 : Heap) (locs1 : List Loc), Hp w M1 s.heap H1 locs1 → W p l e R s m args below meth c H1 locs1 (cells + mc) (slots + ms') Q (F0 m (pc + 3) ls ((v.map (cv w)).toList ++ rest))) : W p l e R s m args below meth c H locs cells slots Q (F0 m pc ls st0) := by
  intro T hT Y
  obtain ⟨v', st₀, t, T', L, h0, X', hL, e1, e2, ⟨hv, ⟨q1, q2, q3, q4⟩, hz, hk⟩, st⟩ := hr T hT Y
  cases hv
  rw [h0] at hz hk
  obtain ⟨t2, a1, b1⟩ := kk T'.heap (locs ++ L) ⟨by rw [e1]; exact q1, q2, ⟨Nat.le_trans hS.1 (by rw [e1]; exact hz), fun x h1 h2 => by rw [e1, hk x (Nat.lt_of_lt_of_le h1 hS.1) h2]; exact hS.2.1 x h1 h2, fun x hx => by
      rcases List.mem_append.mp hx with h | h
      · exact hS.2.2 x h
      · exact hL x h⟩, q3, q4⟩ T' rfl X'
  exact ⟨t2, st t2 a1, b1⟩
/-- what a callee finds at the call -/
theorem CP_at {as : List Value} (C0 : Ctx w X q p s m args meth c) (hH : Hp w M s.heap H locs) (hsz : H.size = w.1 + mn M) (U : State) (hU : U.heap = H) (hW : s.WarmedH U.vm) : CP w X as M (as.map (cv w)).toArray U := by
  obtain ⟨hx, hb, hrt, hml, hown, hts, hlk, hnm, hK, hO, hbs, hov0⟩ := C0
  subst hU
  exact ⟨rfl, ⟨hH.1, hH.2.1, hH.2.2.2.1, hH.2.2.2.2⟩, hsz, va_K.moved hW.alike hK, hO.warm hW hH.2.2.1.1 hH.2.2.1.2.1⟩
end CALL
def rmOf (d mc ms' : Nat) : Room := { frames := d, cells := mc, slots := ms', locals := 40 * d + 20 }
theorem goodALL : GoodIn ALL ALL := fun x hx => ⟨hx, good_of_word (List.mem_filter.mp hx).2⟩
theorem good_code {q : MT} (h : mtCW q) : GoodIn ALL (Cond.code q.1 q.2.1 q.2.2.1 q.2.2.2.1 :: ALL) := fun x hx => by
  rcases List.mem_cons.mp hx with rfl | hx
  · exact goodALL _ h
  · exact goodALL _ hx
def MetP (w : Wp) (X : Nat × (Nat → Int32)) (l : Launch) (d : Nat) (t : MT) (as : List Value) (M : Mem) (v : Option Value) (M1 : Mem) : Prop := Met l t.1 (Cond.code t.1 t.2.1 t.2.2.1 t.2.2.2.1 :: ALL) (rmOf d (mn M1 - mn M) (ms M1 - ms M)) (CP w X as M) (CQ w v M1) (mn M1 - mn M) (ms M1 - ms M) (wA0 w)
/-- the statement about a run, for all callers -/
def RunP (w : Wp) (X : Nat × (Nat → Int32)) (l : Launch) (d : Nat) (q : MT) (pc : Nat) (L : List (Option Value)) (st : List Value) (M : Mem) (v : Option Value) (M1 : Mem) : Prop :=
  ∀ {p : Program} {e : Env} {R : Room} {s : State} {m : MethodId} {args : Array Value} {below : List Frame} {meth : Method} {c : Code} {Q : State → Prop} {H : Heap} {locs : List Loc} {ls : Array Slot} {n0 s0 : Nat}, Ctx w X q p s m args meth c → Hp w M s.heap H locs → lvh w ls q.2.2.1 L → s.heap.size = w.1 + n0 → n0 ≤ mn M → s0 ≤ ms M → mn M1 - n0 ≤ R.cells → ms M1 - s0 ≤ R.slots → d ≤ R.frames → 40 * d + 20 ≤ R.locals →
  (∀ (H' : Heap) (locs' : List Loc) (pc' : Nat) (ls' : Array Slot) (i : Instr) (nx : Nat) (st' : List Value), Hp w M1 s.heap H' locs' → q.2.2.2.2.2.lookup pc' = some (i, nx) → isRet i = true → retOK q.2.2.2.1 i st' = some v → W p l e R s m args below meth c H' locs' (mn M1 - n0) (ms M1 - s0) Q (F0 m pc' ls' (st'.map (cv w)))) →
  W p l e R s m args below meth c H locs (mn M - n0) (ms M - s0) Q (F0 m pc ls (st.map (cv w)))
theorem ret_core {w : Wp} {v : Option Value} {M1 : Mem} {p : Program} {l : Launch} {e : Env} {R : Room} {s : State} {m : MethodId} {args : Array Value} {below : List Frame} {meth : Method} {c : Code} {H : Heap} {locs : List Loc} {cells slots : Nat} {q : MT} {mi pc nx : Nat} {ls : Array Slot} {i : Instr} {st : List Value} (hq : mtabL[mi]? = some q) (hx : p.tables.exec = Jvm.exec) (hb : c.code = q.2.1) (hr : meth.sig.returnType = q.2.2.2.1) (hlk : meth.locks = false) (hH : Hp w M1 s.heap H locs) (hlo : q.2.2.2.2.2.lookup pc = some (i, nx)) (hi : isRet i = true) (ho : retOK q.2.2.2.1 i st = some v) :
    W p l e R s m args below meth c H locs cells slots (MQ below (CQ w v M1) args s cells slots (wA0 w)) (F0 m pc ls (st.map (cv w))) := by
  obtain ⟨len, hd, hz⟩ := at_DD hq hlo
  have hq2 : ∀ (o : Option Value) (t : State), t.heap = H → o = v.map (cv w) → CQ w v M1 args s (.returned o) t := fun o t ht e => by
    subst ht; subst e
    exact ⟨rfl, ⟨hH.1, hH.2.1, hH.2.2.2.1, hH.2.2.2.2⟩, hH.2.2.1.F rfl⟩
  unfold retOK at ho
  split at ho
  · rename_i hrt
    cases ho
    obtain ⟨rfl, rfl⟩ := hz rfl
    exact W.vret hx hb (hr.trans hrt) (fun t ht _ => hq2 _ t ht rfl) hH.2.2.1.2.2 hd hlk
  · rename_i t x hrt
    split at ho
    · rename_i hk
      cases ho
      obtain ⟨rfl, rfl⟩ := hz rfl
      rcases hk with rfl | ⟨-, hk⟩
      · exact W.iret hx hb (hr.trans hrt) (fun t ht _ => hq2 _ t ht rfl) hH.2.2.1.2.2 hd hlk
      · exact W.zret hx hb (hr.trans hrt) hk (fun t ht _ => hq2 _ t ht rfl) hH.2.2.1.2.2 hd hlk
    · cases ho
  · rename_i nm v' hrt
    obtain ⟨rfl, rfl⟩ := hz rfl
    split at ho
    · cases ho
      exact W.aret hx hb (hr.trans hrt) (Or.inl ⟨_, rfl⟩) (Or.inr ⟨_, rfl⟩) (fun t ht _ => hq2 _ t ht rfl) hH.2.2.1.2.2 hd hlk
    · cases ho
      exact W.aret hx hb (hr.trans hrt) (Or.inl ⟨_, rfl⟩) (Or.inl rfl) (fun t ht _ => hq2 _ t ht rfl) hH.2.2.1.2.2 hd hlk
    · cases ho
  · rename_i nm v' hrt
    obtain ⟨rfl, rfl⟩ := hz rfl
    split at ho
    · cases ho
      exact W.aret hx hb (hr.trans hrt) (Or.inr ⟨_, rfl⟩) (Or.inr ⟨_, rfl⟩) (fun t ht _ => hq2 _ t ht rfl) hH.2.2.1.2.2 hd hlk
    · cases ho
      exact W.aret hx hb (hr.trans hrt) (Or.inr ⟨_, rfl⟩) (Or.inl rfl) (fun t ht _ => hq2 _ t ht rfl) hH.2.2.1.2.2 hd hlk
    · cases ho
  · cases ho
theorem met_of {w : Wp} {X : Nat × (Nat → Int32)} {l : Launch} {d ti : Nat} {t : MT} {as : List Value} {M : Mem} {v : Option Value} {M1 : Mem} (hov0 : ∀ k, w.2.2.2 k = .null ∨ ∃ a, w.2.2.2 k = .ref a) (ht : mtabL[ti]? = some t) (hc : cat1s as = true) (hn : as.length ≤ t.2.2.1) (h : RunP w X l d t 0 (entL t.2.2.1 as) [] M v M1) : MetP w X l d t as M v M1 := by
  obtain ⟨hdec, hcls, hml11, hpl⟩ := mtabL_ok t (List.mem_of_getElem? ht)
  refine va_MetF hpl rfl ?_
  intro p e s m args below meth c s₁ B hml hv
  obtain ⟨rfl, ⟨hP, hD, hKd, hBy⟩, hsz, hK, hO⟩ := hv
  have hts := atoms_spec (ws := Cond.code t.1 t.2.1 t.2.2.1 t.2.2.2.1 :: ALL) B.pre
  have hown : s.vm.findClass t.1.cls = some m.cls := findClass_of_methodNamed B.named
  have C0 : Ctx w X t p s m (as.map (cv w)).toArray meth c := ⟨B.exec, B.bytes, B.returns, hml, by rw [← hcls]; exact hown, fun x hx => hts x (List.mem_cons_of_mem _ hx), B.notSynchronized, fun z => (name_of_methodNamed B.named B.method).1.trans z, hK, hO, by omega, hov0⟩
  have hcc := cat_cv (ov_cat hov0) hc
  have hl := lv_entry (as.map (cv w)) (n := t.2.2.1) (by rw [sl_one _ hcc, List.length_map]; exact hn)
  rw [lg_entry_eq]
  generalize (lg_sl (as.map (cv w)) ++ List.replicate (t.2.2.1 - (lg_sl (as.map (cv w))).length) Slot.unset).toArray = ls at hl ⊢
  have hlv := ent_lvh (ov_cat hov0) hc hn hl
  refine W.cs (cells' := mn M - mn M) (slots' := ms M - ms M) (Nat.sub_self _).symm (Nat.sub_self _).symm ?_
  refine h (Q := MQ below (CQ w v M1) (as.map (cv w)).toArray s (mn M1 - mn M) (ms M1 - ms M) (wA0 w)) (n0 := mn M) (s0 := ms M) C0 ⟨hP, hD, va_S.rf, hKd, hBy⟩ hlv hsz (Nat.le_refl _) (Nat.le_refl _) (Nat.le_refl _) (Nat.le_refl _) (Nat.le_refl _) (Nat.le_refl _) ?_
  intro H' locs' pc' ls' i nx st' hH' hlo hi ho
  exact ret_core ht B.exec B.bytes B.returns B.notSynchronized hH' hlo hi ho
end
section
/-! CALLS, and the run as a whole -/
theorem good_sub {ws : List Cond} (h : ∀ x ∈ ws, x ∈ ALL) : GoodIn ALL ws := fun x hx => goodALL x (h x hx)
theorem mtab_L {ti : Nat} {t : MT} (h : mtab[ti]? = some t) : mtabL[ti]? = some t := by
  unfold mtabL
  rw [List.getElem?_append_left (List.getElem?_eq_some_iff.mp h).1]
  exact h
theorem inv_static {i : Instr} {k mode : Nat} (h : invIx i = some k) (hm : modeI mode i = true) (hz : mode = 0 ∨ mode = 5 ∨ mode = 9) : i = .invokestatic k := by
  cases i <;> first | (cases h; done) | skip
  all_goals (cases h; rcases hz with rfl | rfl | rfl <;> first | rfl | cases hm)
theorem inv_virt {i : Instr} {k mode : Nat} (h : invIx i = some k) (hm : modeI mode i = true) (hz : mode = 1 ∨ mode = 3 ∨ mode = 7) : i = .invokevirtual k := by
  cases i <;> first | (cases h; done) | skip
  all_goals (cases h; rcases hz with rfl | rfl | rfl <;> first | rfl | cases hm)
theorem inv_spec {i : Instr} {k mode : Nat} (h : invIx i = some k) (hm : modeI mode i = true) (hz : mode = 2 ∨ mode = 4 ∨ mode = 6 ∨ mode = 8) : i = .invokespecial k := by
  cases i <;> first | (cases h; done) | skip
  all_goals (cases h; rcases hz with rfl | rfl | rfl | rfl <;> first | rfl | cases hm)
theorem stk_eq {w : Wp} {st as : List Value} {na : Nat} (has : as = (st.take na).reverse) : st.map (cv w) = (as.map (cv w)).reverse ++ (st.drop na).map (cv w) := by
  subst has
  rw [List.map_reverse, List.reverse_reverse, ← List.map_append, List.take_append_drop]
theorem rcv_1 {ti : Nat} {M : Mem} {as : List Value} (h : rcvOK 1 ti M as = true) : ∃ (b : Nat) (As : List Value) (q : MT) (r : vw_C), as = .ref b :: As ∧ mtabL[ti]? = some q ∧ classes[mK M b - 1]? = some r ∧ r.1 = q.1.cls ∧ mK M b ≠ 0 := by
  cases as with
  | nil => cases h
  | cons u As =>
    cases u with
    | ref b =>
      have h : (match mtabL[ti]? with
        | some q => match classes[mK M b - 1]? with
          | some r => decide (r.1 = q.1.cls ∧ mK M b ≠ 0)
          | none => false
        | none => false) = true := h
      split at h
      · rename_i q hq
        split at h
        · rename_i r hr
          rw [decide_eq_true_eq] at h
          exact ⟨b, As, q, r, rfl, hq, hr, h.1, h.2⟩
        · cases h
      · cases h
    | _ => cases h
theorem rcv_2 {mode ti : Nat} {M : Mem} {as : List Value} (hm : mode = 2 ∨ mode = 6) (h : rcvOK mode ti M as = true) : ∃ (b : Nat) (As : List Value), as = .ref b :: As := by
  cases as with
  | nil => rcases hm with rfl | rfl <;> cases h
  | cons u As =>
    cases u with
    | ref b => exact ⟨b, As, rfl⟩
    | _ => rcases hm with rfl | rfl <;> cases h
theorem rcv_3 {mode ti : Nat} {M : Mem} {as : List Value} (hm : mode = 3 ∨ mode = 4) (h : rcvOK mode ti M as = true) : ∃ (b : Nat) (As : List Value), as = .ref b :: As ∧ mK M b = 14 := by
  cases as with
  | nil => rcases hm with rfl | rfl <;> cases h
  | cons u As =>
    cases u with
    | ref b => rcases hm with rfl | rfl <;> exact ⟨b, As, rfl, of_decide_eq_true h⟩
    | _ => rcases hm with rfl | rfl <;> cases h
theorem rcv_7 {ti : Nat} {M : Mem} {as : List Value} (h : rcvOK 7 ti M as = true) : ∃ As : List Value, as = .retAddr 3 :: As := by
  cases as with
  | nil => cases h
  | cons u As =>
    cases u with
    | retAddr n =>
      match n, h with
      | 3, _ => exact ⟨As, rfl⟩
      | 0, h => cases h
      | 1, h => cases h
      | 2, h => cases h
      | n + 4, h => cases h
    | _ => cases h
section CORE
variable {w : Wp} {X : Nat × (Nat → Int32)} {q t : MT} {p : Program} {l : Launch} {e : Env} {R : Room} {s : State} {m : MethodId} {args : Array Value} {below : List Frame} {meth : Method} {c : Code} {H : Heap} {locs : List Loc} {Q : State → Prop} {M M2 : Mem} {ls : Array Slot} {pc nx n0 s0 k d : Nat} {i : Instr} {S : Nat × Nat × Nat × List Nat} {st as : List Value} {v : Option Value}
theorem call_core (C0 : Ctx w X q p s m args meth c) (hH : Hp w M s.heap H locs) (hsz : H.size = w.1 + mn M) (hls : ls.size = q.2.2.1) (hlk : sites.lookup (q.2.2.2.2.1, k) = some S) (hiv : invIx i = some k) (hmd : modeI S.1 i = true) (hDD : DD q i pc nx) (hd0 : d ≠ 0) (h8 : S.1 ≠ 8) (h9 : S.1 ≠ 9) (ht : mtab[S.2.1]? = some t) (has : as = (st.take (naOf S.1 S.2.2.1)).reverse) (hle : naOf S.1 S.2.2.1 ≤ st.length) (hcs : catS (st.drop (naOf S.1 S.2.2.1)) ≤ 8) (hrc : rcvOK S.1 S.2.1 M as = true)
    (hM : MetP w X l (d - 1) t as M v M2) (hc : (mn M - n0) + (mn M2 - mn M) ≤ R.cells) (hs : (ms M - s0) + (ms M2 - ms M) ≤ R.slots) (hf : d ≤ R.frames) (hlo : 40 * d + 20 ≤ R.locals) :
    va_Run p l e R s m args below meth c H locs (mn M - n0) (ms M - s0) (mn M2 - mn M) (ms M2 - ms M) (F0 m pc ls (st.map (cv w))) ((st.drop (naOf S.1 S.2.2.1)).map (cv w)) (CQ w v M2 (as.map (cv w)).toArray) (wA0 w) ∧ nx = pc + 3 := by
  have C1 := C0
  obtain ⟨hx, hb, hrt, hml, hown, hts, hlock, hnm, hK, hO, hbs, hov0⟩ := C0
  have hov := ov_cat hov0
  obtain ⟨len, hd, hz⟩ := hDD
  obtain ⟨⟨-, -, hm11, -⟩, hcw⟩ := mtab_ok t (List.mem_of_getElem? ht)
  have h1 := sites_ok _ (look_mem hlk)
  have CF : CallFix p m c q.2.1 q.2.2.1 s args ALL (oN q.2.2.2.2.1) := ⟨hx, hb, hml, hown, hts⟩
  have hPc := CP_at (as := as) C1 hH hsz
  have hR : (rmOf (d - 1) (mn M2 - mn M) (ms M2 - ms M)).frames + 1 ≤ R.frames ∧ 8 + (t.2.2.1 + 11) + (rmOf (d - 1) (mn M2 - mn M) (ms M2 - ms M)).locals ≤ R.locals := by
    unfold rmOf
    dsimp only
    omega
  have hcat : 2 * (F0 m pc ls (st.map (cv w))).monitorRoom + (((st.drop (naOf S.1 S.2.2.1)).map (cv w)).map fun v => v.category).sum ≤ 8 := by
    rw [catS_cv hov]
    show 2 * 0 + _ ≤ 8
    omega
  have hstk := stk_eq (w := w) has
  have hlen : as.length = naOf S.1 S.2.2.1 := by rw [has, List.length_reverse, List.length_take]; omega
  obtain ⟨mode, ti, na, ps⟩ := S
  unfold siteOK at h1
  dsimp only at h1 ht hmd hrc hlen hcat hstk hcs hle h8 h9 ⊢
  rw [ht] at h1
  dsimp only at h1
  have hpays : ∀ {x : List Cond}, (∀ y ∈ x, y ∈ ALL) → GoodIn ALL (x ++ (Cond.code t.1 t.2.1 t.2.2.1 t.2.2.2.1 :: ALL)) := fun hx => good_sub (fun y hy => by
    rcases List.mem_append.mp hy with h | h
    · exact hx y h
    · rcases List.mem_cons.mp h with rfl | h
      · exact hcw
      · exact h)
  match mode, h1, hmd, hrc, hlen, hcat, hstk, h8, h9 with
  | 0, h1, hmd, hrc, hlen, hcat, hstk, _, _ =>
    obtain rfl := inv_static hiv hmd (Or.inl rfl)
    obtain ⟨rfl, rfl⟩ := hz rfl
    simp only [Bool.and_eq_true, decide_eq_true_eq] at h1
    obtain ⟨⟨⟨⟨⟨h2, h3⟩, h4⟩, h5⟩, h6⟩, h7⟩ := h1
    refine ⟨va_runS CF hM ⟨callB_of na hts (good_code hcw) rfl rfl rfl (hts _ (hasW_mem h2)) (hts _ (hasW_mem h6)) ⟨h4, h5, h3⟩ hR, hts _ (hasW_mem h7)⟩ ⟨CP_blind, hPc⟩ rfl (by rw [List.length_map]; exact hlen) hls hstk hcat hd ⟨hc, hs⟩, rfl⟩
  | 5, h1, hmd, hrc, hlen, hcat, hstk, _, _ =>
    obtain rfl := inv_static hiv hmd (Or.inr (Or.inl rfl))
    obtain ⟨rfl, rfl⟩ := hz rfl
    simp only [Bool.and_eq_true, decide_eq_true_eq] at h1
    obtain ⟨⟨⟨⟨⟨h2, h3⟩, h4⟩, h5⟩, h6⟩, h7⟩ := h1
    refine ⟨va_runSN CF hM ⟨va_cnB na hts (good_code hcw) rfl rfl rfl (hO.2.2.2.2.2.2.1 _ (hasN_mem h6)) (hts _ (hasW_mem h2)) ⟨h4, h5, h3⟩ hR, hts _ (hasW_mem h7), trivial⟩ ⟨CP_blind, hPc⟩ rfl (by rw [List.length_map]; exact hlen) hls hstk hcat hd ⟨hc, hs⟩, rfl⟩
  | 1, h1, hmd, hrc, hlen, hcat, hstk, _, _ =>
    obtain rfl := inv_virt hiv hmd (Or.inl rfl)
    obtain ⟨rfl, rfl⟩ := hz rfl
    simp only [Bool.and_eq_true, decide_eq_true_eq] at h1
    obtain ⟨⟨⟨⟨⟨⟨h2, h3⟩, h4⟩, h5⟩, h6⟩, h7⟩, h7b⟩ := h1
    obtain ⟨b, As, q2, r, rfl, hq2, hr, hrc1, hrc2⟩ := rcv_1 hrc
    rw [mtab_L ht] at hq2
    cases hq2
    have hbn : b < mn M := hH.2.2.2.1 b hrc2
    have hci : mK M b - 1 < 14 := (List.getElem?_eq_some_iff.mp hr).1
    have hcell := va_recv hK hH.1 hr (q0 := b) (by rw [wsM_get hbn, ent_obj (ci := mK M b - 1) (by omega) hci])
    rw [hrc1] at hcell
    refine ⟨va_runV (As := As.map (cv w)) CF hM (cwV na hts (hpays (x := [.methodLink _ k t.1, .instanceMethod t.1, .selects t.1.cls t.1 t.1, .initialized t.1.cls]) (fun y hy => ?_)) rfl rfl rfl ⟨rfl, h4, h5, h3⟩ hR) ⟨CP_blind, hcell, hPc⟩ rfl (by rw [List.length_map]; simp only [List.length_cons, naOf] at hlen; omega) hls (by rw [hstk]; simp [cv]) hcat hd ⟨hc, hs⟩, rfl⟩
    simp only [List.mem_cons, List.not_mem_nil, or_false] at hy
    rcases hy with rfl | rfl | rfl | rfl
    · exact hasW_mem h6
    · exact hasW_mem h7
    · exact hasW_mem h7b
    · exact hasW_mem h2
  | 2, h1, hmd, hrc, hlen, hcat, hstk, _, _ =>
    obtain rfl := inv_spec hiv hmd (Or.inl rfl)
    obtain ⟨rfl, rfl⟩ := hz rfl
    simp only [Bool.and_eq_true, decide_eq_true_eq] at h1
    obtain ⟨⟨⟨⟨⟨⟨⟨h2, h3⟩, h4⟩, h5⟩, h6⟩, h7⟩, h7b⟩, h7c⟩ := h1
    obtain ⟨b, As, rfl⟩ := rcv_2 (Or.inl rfl) hrc
    have hM2 := hM
    unfold MetP at hM2
    rw [h7c] at hM2
    have hcw2 := good_code hcw
    rw [h7c] at hcw2
    exact ⟨va_runI (As := As.map (cv w)) CF hM2 (cwI na hts hcw2 rfl rfl rfl (hts _ (hasW_mem h2)) (hts _ (hasW_mem h6)) (hts _ (hasW_mem h7)) h7b ⟨h4, h5, h3⟩ hR) ⟨CP_blind, hPc⟩ rfl (by rw [List.length_map]; simp only [List.length_cons, naOf] at hlen; omega) hls (by rw [hstk]; simp [cv]) hcat hd ⟨hc, hs⟩, rfl⟩
  | 6, h1, hmd, hrc, hlen, hcat, hstk, _, _ =>
    obtain rfl := inv_spec hiv hmd (Or.inr (Or.inr (Or.inl rfl)))
    obtain ⟨rfl, rfl⟩ := hz rfl
    simp only [Bool.and_eq_true, decide_eq_true_eq] at h1
    obtain ⟨⟨⟨⟨⟨⟨⟨h2, h3⟩, h4⟩, h5⟩, h6⟩, h7⟩, h7b⟩, h7c⟩ := h1
    obtain ⟨b, As, rfl⟩ := rcv_2 (Or.inr rfl) hrc
    have hM2 := hM
    unfold MetP at hM2
    rw [h7c] at hM2
    have hcw2 := good_code hcw
    rw [h7c] at hcw2
    exact ⟨va_runIN (As := As.map (cv w)) CF hM2 ⟨va_cnB na hts hcw2 rfl rfl rfl (hO.2.2.2.2.2.2.1 _ (hasN_mem h6)) (hts _ (hasW_mem h2)) ⟨h4, h5, h3⟩ hR, h7b, hts _ (hasW_mem h7)⟩ ⟨CP_blind, hPc⟩ rfl (by rw [List.length_map]; simp only [List.length_cons, naOf] at hlen; omega) hls (by rw [hstk]; simp [cv]) hcat hd ⟨hc, hs⟩, rfl⟩
  | 3, h1, hmd, hrc, hlen, hcat, hstk, _, _ =>
    obtain rfl := inv_virt hiv hmd (Or.inr (Or.inl rfl))
    obtain ⟨rfl, rfl⟩ := hz rfl
    simp only [Bool.and_eq_true, decide_eq_true_eq] at h1
    obtain ⟨⟨⟨⟨⟨⟨⟨h2, h3⟩, h4⟩, h5⟩, h6⟩, h7⟩, h7b⟩, h7c⟩ := h1
    obtain ⟨b, As, rfl, hk14⟩ := rcv_3 (Or.inl rfl) hrc
    have hbn : b < mn M := hH.2.2.2.1 b (by omega)
    have hcell := va_recv (ci := 13) hK hH.1 rfl (q0 := b) (by rw [wsM_get hbn, ent_obj (ci := 13) hk14 (by omega)])
    refine ⟨va_runU (As := As.map (cv w)) (C := "java/lang/StringBuilder") CF hM (va_cwU (owner := t.1.cls) na hts (hpays (x := [.methodLink _ k t.1, .sameMethod t.1.cls t.1.cls t.1.name t.1.desc, .selects "java/lang/StringBuilder" t.1 t.1, .instanceMethod t.1, .initialized t.1.cls]) (fun y hy => ?_)) rfl rfl rfl rfl ⟨h4, h5, h3⟩ hR) ⟨CP_blind, hcell, hPc⟩ rfl (by rw [List.length_map]; simp only [List.length_cons, naOf] at hlen; omega) hls (by rw [hstk]; simp [cv]) hcat hd ⟨hc, hs⟩, rfl⟩
    simp only [List.mem_cons, List.not_mem_nil, or_false] at hy
    rcases hy with rfl | rfl | rfl | rfl | rfl
    · exact hasW_mem h6
    · exact hasW_mem h7b
    · exact hasW_mem h7c
    · exact hasW_mem h7
    · exact hasW_mem h2
  | 4, h1, hmd, hrc, hlen, hcat, hstk, _, _ =>
    obtain rfl := inv_spec hiv hmd (Or.inr (Or.inl rfl))
    obtain ⟨rfl, rfl⟩ := hz rfl
    simp only [Bool.and_eq_true, decide_eq_true_eq] at h1
    obtain ⟨⟨⟨⟨⟨⟨⟨⟨⟨h2, h3⟩, h4⟩, h5⟩, h6⟩, h7⟩, h7b⟩, h7c⟩, h7d⟩, h7e⟩ := h1
    obtain ⟨b, As, rfl, hk14⟩ := rcv_3 (Or.inr rfl) hrc
    have hbn : b < mn M := hH.2.2.2.1 b (by omega)
    have hcell := va_recv (ci := 13) hK hH.1 rfl (q0 := b) (by rw [wsM_get hbn, ent_obj (ci := 13) hk14 (by omega)])
    refine ⟨va_runSU (As := As.map (cv w)) (hK.1 13 _ rfl).2 CF hM (va_cwSU na hts (hpays (x := [.methodLink _ k t.1, .sameMethod t.1.cls t.1.cls t.1.name t.1.desc, .superclass _ t.1.cls, .instanceMethod t.1, .initialized t.1.cls]) (fun y hy => ?_)) rfl rfl rfl ⟨h7e, h3⟩ hR) ⟨CP_blind, hcell, hPc⟩ rfl (by rw [List.length_map]; simp only [List.length_cons, naOf] at hlen; omega) hls (by rw [hstk]; simp [cv]) hcat hd ⟨hc, hs⟩, rfl⟩
    simp only [List.mem_cons, List.not_mem_nil, or_false] at hy
    rcases hy with rfl | rfl | rfl | rfl | rfl
    · exact hasW_mem h6
    · exact hasW_mem h7b
    · exact hasW_mem h7c
    · exact hasW_mem h7
    · exact hasW_mem h2
  | 7, h1, hmd, hrc, hlen, hcat, hstk, _, _ =>
    obtain rfl := inv_virt hiv hmd (Or.inr (Or.inr rfl))
    obtain ⟨rfl, rfl⟩ := hz rfl
    simp only [Bool.and_eq_true, decide_eq_true_eq] at h1
    obtain ⟨⟨⟨⟨⟨⟨⟨h2, h3⟩, h4⟩, h5⟩, h6⟩, h7⟩, h7b⟩, h7c⟩ := h1
    obtain ⟨As, rfl⟩ := rcv_7 hrc
    obtain ⟨-, -, -, -, -, ⟨kA, vA, f1, f2, f3, f4, f5, f6, f7⟩, -⟩ := hO
    have hcell : ∃ cell : Cell, H[kA]? = some cell ∧ cell.vm.isStatics = false ∧ s.vm.findClass t.1.cls = some cell.cls := by
      obtain ⟨cell, g1, g2, g3, -⟩ := f3.kept hH.2.2.1.2.1
      exact ⟨cell, g1, g2, by rw [h7c]; exact g3⟩
    have hcv : (List.map (cv w) (Value.retAddr 3 :: As)) = Value.ref kA :: As.map (cv w) := by
      rw [List.map_cons]
      show w.2.2.2 3 :: _ = _
      rw [f1]
    rw [hcv] at hPc hstk ⊢
    refine ⟨va_runV (As := As.map (cv w)) CF hM (cwV na hts (hpays (x := [.methodLink _ k t.1, .instanceMethod t.1, .selects t.1.cls t.1 t.1, .initialized t.1.cls]) (fun y hy => ?_)) rfl rfl rfl ⟨rfl, h4, h5, h3⟩ hR) ⟨CP_blind, hcell, hPc⟩ rfl (by rw [List.length_map]; simp only [List.length_cons, naOf] at hlen; omega) hls (by rw [hstk]; simp) hcat hd ⟨hc, hs⟩, rfl⟩
    simp only [List.mem_cons, List.not_mem_nil, or_false] at hy
    rcases hy with rfl | rfl | rfl | rfl
    · exact hasW_mem h6
    · exact hasW_mem h7
    · exact hasW_mem h7b
    · exact hasW_mem h2
  | 8, _, _, _, _, _, _, h8, _ => exact absurd rfl h8
  | 9, _, _, _, _, _, _, _, h9 => exact absurd rfl h9
  | n + 10, h1, _, _, _, _, _, _, _ => cases h1
end CORE
theorem ev_sound {w : Wp} {X : Nat × (Nat → Int32)} {l : Launch} (hov0 : ∀ k, w.2.2.2 k = .null ∨ ∃ a, w.2.2.2 k = .ref a) : ∀ (n d mi pc : Nat) (L : List (Option Value)) (st : List Value) (M : Mem) (v : Option Value) (M1 : Mem) (q : MT), mtabL[mi]? = some q → ev n d mi pc L st M = some (v, M1) → mX M = X → RunP w X l d q pc L st M v M1 := by
  intro n
  induction n with
  | zero => intro d mi pc L st M v M1 q hq h; cases h
  | succ n ih =>
    intro d mi pc L st M v M1 q hq h hX p e R s m args below meth c Q H locs ls n0 s0 C0 hH hl hsb hn0 hs0 hc hs hf hlo hret
    have hmono := ev_mono _ _ _ _ _ _ _ _ h
    unfold ev at h
    rw [hq] at h
    dsimp only at h
    split at h
    · cases h
    · rename_i i nx hlk
      have hDD := at_DD hq hlk
      split at h
      · rename_i hi
        cases hr : retOK q.2.2.2.1 i st with
        | none => rw [hr] at h; cases h
        | some v2 =>
          rw [hr] at h
          cases h
          exact hret H locs pc ls i nx st hH hlk hi hr
      · split at h
        · rename_i k hk
          split at h
          · cases h
          · rename_i S hS
            split at h
            · cases h
            · rename_i hmd
              have hmd1 : modeI S.1 i = true := by cases hz : modeI S.1 i with
                | true => rfl
                | false => exact absurd (Or.inl hz) hmd
              have hd0 : d ≠ 0 := fun z => hmd (Or.inr z)
              have hsite := sites_ok _ (look_mem hS)
              have hx := C0.1
              have hb := C0.2.1
              have hml := C0.2.2.2.1
              have hown := C0.2.2.2.2.1
              have hts := C0.2.2.2.2.2.1
              split at h
              · rename_i h8
                split at h
                · rename_i a rest
                  split at h
                  · rename_i hcs
                    rw [h8] at hmd1
                    obtain rfl := inv_spec hk hmd1 (Or.inr (Or.inr (Or.inr rfl)))
                    obtain ⟨len, hd, hz⟩ := hDD
                    obtain ⟨rfl, rfl⟩ := hz rfl
                    unfold siteOK at hsite
                    rw [h8] at hsite
                    dsimp only at hsite
                    split at hsite
                    · cases hsite
                    · refine W.objInit (rest := rest.map (cv w)) hx hb hown (hts _ (hasW_mem hsite)) (hts _ oi_1) (hts _ oi_2) rfl (hl.1.trans hml.symm) rfl hd (by omega) ?_ ?_
                      · rw [catS_cv (ov_cat hov0)]
                        show 2 * 0 + _ + 12 ≤ _
                        omega
                      · exact ih _ _ _ _ _ _ _ _ q hq h hX C0 hH hl hsb hn0 hs0 hc hs hf hlo hret
                  · cases h
                · cases h
              · rename_i h8
                split at h
                · rename_i h9
                  split at h
                  · rename_i x dp b sp a rest
                    split at h
                    · rename_i hcd
                      obtain ⟨hka, hkb, hsp, hdp, hw, hla, hlb, hcs⟩ := hcd
                      rw [h9] at hmd1
                      obtain rfl := inv_static hk hmd1 (Or.inr (Or.inr rfl))
                      obtain ⟨len, hd, hz⟩ := hDD
                      obtain ⟨rfl, rfl⟩ := hz rfl
                      unfold siteOK at hsite
                      rw [h9] at hsite
                      dsimp only at hsite
                      split at hsite
                      · cases hsite
                      · have hK := C0.2.2.2.2.2.2.2.2.1
                        have han : a < mn M := hH.2.2.2.1 a (by omega)
                        have hbn : b < mn M := hH.2.2.2.1 b (by omega)
                        have hcs2 : ((rest.map (cv w)).map fun v => v.category).sum ≤ 8 := by rw [catS_cv (ov_cat hov0)]; exact hcs
                        have hnw : nativeFrameWords "java/lang/System" "arraycopy" 5 = 7 := by decide
                        have go : ∀ (kd : Nat), mK M a = kd → kd = 100 ∨ kd = 101 → ∀ (H1 : Heap) (locs1 : List Loc), va_P w.2.1 classes ((wsM w M).set b (w.1 + b, .inl (w.2.2.1 kd, mL M b, .inl (va_cpy (mI M a) (mI M b) sp.toNatClampNeg dp.toNatClampNeg x.toNatClampNeg)))) H1 → va_D (wA0 w) ((wsM w M).set b (w.1 + b, .inl (w.2.2.1 kd, mL M b, .inl (va_cpy (mI M a) (mI M b) sp.toNatClampNeg dp.toNatClampNeg x.toNatClampNeg)))) → va_S (wA0 w) s.heap H1 locs1 → W p l e R s m args below meth c H1 locs1 (mn M - n0) (ms M - s0) Q (F0 m (pc + 3) ls (rest.map (cv w))) := by
                          intro kd hkd h100 H1 locs1 g1 g2 g3
                          have hrow : mI (wA M b (va_cpy (mI M a) (mI M b) sp.toNatClampNeg dp.toNatClampNeg x.toNatClampNeg)) b = va_cpy (mI M a) (mI M b) sp.toNatClampNeg dp.toNatClampNeg x.toNatClampNeg := funext fun _ => if_pos rfl
                          have hH1 : Hp w (wA M b (va_cpy (mI M a) (mI M b) sp.toNatClampNeg dp.toNatClampNeg x.toNatClampNeg)) s.heap H1 locs1 := by
                            refine hH.put hbn rfl rfl ?_ (fun j hj => ent_wA_ne hj) (fun k j hk2 => ?_) g1 g2 g3
                            · rw [ent_arrI (M := wA M b (va_cpy (mI M a) (mI M b) sp.toNatClampNeg dp.toNatClampNeg x.toNatClampNeg)) (kd := kd) (hkb.trans hkd) (by omega) (by omega), hrow]
                              rfl
                            · by_cases hz2 : k = b
                              · subst hz2
                                rw [hrow]
                                unfold va_cpy
                                split
                                · exact hH.2.2.2.2 a _ (by omega)
                                · exact hH.2.2.2.2 k j hk2
                              · have : mI (wA M b (va_cpy (mI M a) (mI M b) sp.toNatClampNeg dp.toNatClampNeg x.toNatClampNeg)) k j = mI M k j := if_neg hz2
                                rw [this]
                                exact hH.2.2.2.2 k j hk2
                          exact ih _ _ _ _ _ (wA M b (va_cpy (mI M a) (mI M b) sp.toNatClampNeg dp.toNatClampNeg x.toNatClampNeg)) _ _ q hq h hX C0 hH1 hl hsb hn0 hs0 hc hs hf hlo hret
                        rcases hka with hka | hka
                        · exact va_copyi hx hb (hml.trans hl.1.symm) hown (hts _ (hasW_mem hsite)) (hts _ ac_1) (hts _ ac_2) (hts _ ac_3) hK hH.1 hH.2.1 hH.2.2.1 a b 0 0 (ty := .int) (by rw [wsM_get han, ent_arrI hka (by omega) (by omega)]) (by rw [wsM_get hbn, ent_arrI (hkb.trans hka) (by omega) (by omega)]) rfl rfl rfl hsp hdp hw hla hlb (fun _ _ => rfl) (by omega) (by rw [hnw]; omega) hd (go 100 hka (Or.inl rfl))
                        · exact va_copyi hx hb (hml.trans hl.1.symm) hown (hts _ (hasW_mem hsite)) (hts _ ac_1) (hts _ ac_2) (hts _ ac_3) hK hH.1 hH.2.1 hH.2.2.1 a b 1 1 (ty := .byte) (by rw [wsM_get han, ent_arrI hka (by omega) (by omega)]) (by rw [wsM_get hbn, ent_arrI (hkb.trans hka) (by omega) (by omega)]) rfl rfl rfl hsp hdp hw hla hlb (fun i _ => hH.2.2.2.2 a _ hka) (by omega) (by rw [hnw]; omega) hd (go 101 hka (Or.inr rfl))
                    · cases h
                  · cases h
                · rename_i h9
                  split at h
                  · rename_i hcd
                    obtain ⟨hle, hcat, hcs, hrc⟩ := hcd
                    split at h
                    · cases h
                    · rename_i t ht
                      split at h
                      · cases h
                      · rename_i hlen
                        split at h
                        · cases h
                        · rename_i v2 M2 hev
                          have hm1 := ev_mono _ _ _ _ _ _ _ _ hev
                          have hm2 := ev_mono _ _ _ _ _ _ _ _ h
                          have hM : MetP w X l (d - 1) t ((st.take (naOf S.1 S.2.2.1)).reverse) M v2 M2 := met_of hov0 (mtab_L ht) hcat (by omega) (ih _ _ _ _ _ _ _ _ t (mtab_L ht) hev hX)
                          have hc2 : (mn M - n0) + (mn M2 - mn M) ≤ R.cells := by
                            have := hm2.2.1
                            have := hm1.2.1
                            dsimp only at *
                            omega
                          have hs2 : (ms M - s0) + (ms M2 - ms M) ≤ R.slots := by
                            have := hm2.2.2
                            have := hm1.2.2
                            dsimp only at *
                            omega
                          refine W.szb (fun hle2 => ?_)
                          have hsz := hH.size hsb hn0 hle2
                          obtain ⟨hrun, rfl⟩ := call_core (l := l) (e := e) (below := below) (n0 := n0) (s0 := s0) (R := R) C0 hH hsz hl.1 hS hk hmd1 hDD hd0 h8 h9 ht rfl hle hcs hrc hM hc2 hs2 hf hlo
                          refine call_go hrun hH.2.2.1 (fun H1 locs1 hH1 => ?_)
                          have hm1n := hm1.2.1
                          have hm1s := hm1.2.2
                          dsimp only at hm1n hm1s
                          refine W.cs (cells' := mn M2 - n0) (slots' := ms M2 - s0) (by omega) (by omega) ?_
                          have hst : (v2.map (cv w)).toList ++ (st.drop (naOf S.1 S.2.2.1)).map (cv w) = (v2.toList ++ st.drop (naOf S.1 S.2.2.1)).map (cv w) := by
                            cases v2 <;> rfl
                          rw [hst]
                          exact ih _ _ _ _ _ _ _ _ q hq h (hm1.1.trans hX) C0 hH1 hl hsb (by omega) (by omega) hc hs hf hlo hret
                  · cases h
        · rename_i hk
          split at h
          · cases h
          · rename_i f hf2
            have hm := step_mono hf2
            have hm2 := ev_mono _ _ _ _ _ _ _ _ h
            have a1 := hm.2.1
            have a2 := hm.2.2
            have a3 := hm2.2.1
            have a4 := hm2.2.2
            dsimp only at a3 a4
            refine step_all hDD hf2 C0 hH hl hX hsb hn0 hs0 (by omega) (by omega) (fun H' locs' ls' hH' hl' hX' => ?_)
            exact ih _ _ _ _ _ _ _ _ q hq h hX' C0 hH' hl' hsb (by omega) (by omega) hc hs hf hlo hret
end
section
/-! FROM BYTECODE TO FUNCTIONS: combinators, and for each the rows that tie it to a run -/
section COMB
variable {α : Type}
def gI (c j : Nat) (M : Mem) (a : Nat) (k : Int32 → Option α) : Option α := if mK M a = c then k (mI M a j) else none
def gJ (c j : Nat) (M : Mem) (a : Nat) (k : Int64 → Option α) : Option α := if mK M a = c then k (mJ M a j) else none
def gR (c j : Nat) (M : Mem) (a : Nat) (k : Option Nat → Option α) : Option α := if mK M a = c then k (mR M a j) else none
def pI (c j : Nat) (M : Mem) (a : Nat) (v : Int32) (k : Mem → Option α) : Option α := if mK M a = c then k (wI M a j v) else none
def pZ (c j : Nat) (M : Mem) (a : Nat) (v : Int32) (k : Mem → Option α) : Option α := if mK M a = c ∧ (vp_nar .boolean v = v ∧ fits .boolean (.int v) = true) then k (wI M a j v) else none
def pB (c j : Nat) (M : Mem) (a : Nat) (v : Int32) (k : Mem → Option α) : Option α := if mK M a = c ∧ (vp_nar .byte v = v ∧ fits .byte (.int v) = true) then k (wI M a j v) else none
def pJ (c j : Nat) (M : Mem) (a : Nat) (v : Int64) (k : Mem → Option α) : Option α := if mK M a = c then k (wJ M a j v) else none
def pR (c j : Nat) (M : Mem) (a b : Nat) (k : Mem → Option α) : Option α := if mK M a = c then k (wR M a j (some b)) else none
def aI (M : Mem) (a : Nat) (i : Int32) (k : Int32 → Option α) : Option α := if mK M a = 100 ∧ inR i (mL M a) = true then k (mI M a i.toNatClampNeg) else none
def aX (M : Mem) (i : Int32) (k : Int32 → Option α) : Option α := if inR i (mX M).1 = true then k ((mX M).2 i.toNatClampNeg) else none
def sI (M : Mem) (a : Nat) (i v : Int32) (k : Mem → Option α) : Option α := if mK M a = 100 ∧ inR i (mL M a) = true then k (wI M a i.toNatClampNeg v) else none
def aB (M : Mem) (a : Nat) (i : Int32) (k : Int32 → Option α) : Option α := if (mK M a = 101 ∨ mK M a = 102) ∧ inR i (mL M a) = true then k (mI M a i.toNatClampNeg) else none
def aO (o : Nat) (i : Int32) (k : Int32 → Option α) : Option α := if (o = 1 ∨ o = 2 ∨ o = 4) ∧ inR i (oldB o).length = true then k ((oldB o).getD i.toNatClampNeg 0) else none
def sB (M : Mem) (a : Nat) (i v : Int32) (k : Mem → Option α) : Option α := if inR i (mL M a) = true then (if mK M a = 101 then k (wI M a i.toNatClampNeg (vp_nar .byte v)) else if mK M a = 102 then k (wI M a i.toNatClampNeg (vp_nar .boolean v)) else none) else none
def aR (M : Mem) (a : Nat) (i : Int32) (k : Option Nat → Option α) : Option α := if (mK M a = 103 ∨ mK M a = 104 ∨ mK M a = 105) ∧ inR i (mL M a) = true then k (mR M a i.toNatClampNeg) else none
def sR (M : Mem) (a : Nat) (i : Int32) (b : Nat) (k : Mem → Option α) : Option α := if ((mK M a = 103 ∧ mK M b = 1) ∨ (mK M a = 104 ∧ mK M b = 3) ∨ (mK M a = 105 ∧ mK M b = 6)) ∧ inR i (mL M a) = true then k (wR M a i.toNatClampNeg (some b)) else none
def aN (M : Mem) (a : Nat) (k : Int32 → Option α) : Option α := if 100 ≤ mK M a ∧ mK M a < 106 then k (Int32.ofNat (mL M a)) else none
def nO (M : Mem) (kd len : Nat) (k : Nat → Mem → Option α) : Option α := k (mn M) (nC M kd len)
def nA (M : Mem) (kd : Nat) (x : Int32) (k : Nat → Mem → Option α) : Option α := if ¬ x < 0 ∧ x.toNatClampNeg ≤ 1000000 then k (mn M) (nC M kd x.toNatClampNeg) else none
def cpA (M : Mem) (a : Nat) (sp : Int32) (b : Nat) (dp x : Int32) (k : Mem → Option α) : Option α := if (mK M a = 100 ∨ mK M a = 101) ∧ mK M b = mK M a ∧ ¬ sp < 0 ∧ ¬ dp < 0 ∧ ¬ x < 0 ∧ sp.toNatClampNeg + x.toNatClampNeg ≤ mL M a ∧ dp.toNatClampNeg + x.toNatClampNeg ≤ mL M b then k (wA M b (va_cpy (mI M a) (mI M b) sp.toNatClampNeg dp.toNatClampNeg x.toNatClampNeg)) else none
def ck (M : Mem) (a c : Nat) (k : Option α) : Option α := if mK M a = c then k else none
def dvI (x y : Int32) (k : Int32 → Option α) : Option α := if y = 0 then none else k (x / y)
def rmI (x y : Int32) (k : Int32 → Option α) : Option α := if y = 0 then none else k (x - x / y * y)
def nmI (x : Int32) (k : Int32 → Option α) : Option α := k x
def cI (x : Option (Int32 × Mem)) (k : Int32 → Mem → Option α) : Option α := match x with
  | some r => k r.1 r.2
  | none => none
def cV (x : Option Mem) (k : Mem → Option α) : Option α := match x with
  | some r => k r
  | none => none
def cR (x : Option (Option Nat × Mem)) (k : Option Nat → Mem → Option α) : Option α := match x with
  | some r => k r.1 r.2
  | none => none
def onR (o : Option Nat) (kn : Option α) (ks : Nat → Option α) : Option α := match o with
  | none => kn
  | some a => ks a
def nrZ (t : FieldType) (v : Int32) (k : Option α) : Option α := if narrow t (.int v) = .int v then k else none
end COMB
def MX (mi o : Nat) (ini : Bool) (rt : Option FieldType) (il : List (Nat × Instr × Nat)) : Prop := ∃ q : MT, mtabL[mi]? = some q ∧ q.2.2.2.2.1 = o ∧ decide (q.1.name = "<init>") = ini ∧ q.2.2.2.1 = rt ∧ q.2.2.2.2.2 = il
section ROWS
variable {β : Type} {y : β} {d mi pc nx o : Nat} {ini : Bool} {rt : Option FieldType} {il : List (Nat × Instr × Nat)} {L : List (Option Value)} {st : List Value} {M : Mem} {r : Option Value × Mem}
theorem EV_step {i : Instr} {f : Fr} (hm : MX mi o ini rt il) (hl : il.lookup pc = some (i, nx)) (h1 : isRet i = false) (h2 : invIx i = none) (hs : step1 o ini i pc nx L st M = some f) (k : EV d mi f.1 f.2.1 f.2.2.1 f.2.2.2 r) : EV d mi pc L st M r := by
  obtain ⟨q, hq, rfl, rfl, rfl, rfl⟩ := hm
  obtain ⟨n, hn⟩ := k
  refine ⟨n + 1, ?_⟩
  unfold ev
  rw [hq]
  dsimp only
  rw [hl]
  dsimp only
  rw [h1, h2]
  dsimp only
  rw [hs]
  exact hn
/-- a stretch of instructions that only move values -/
def stpL (o : Nat) (ini : Bool) : List (Nat × Instr × Nat) → Fr → Option Fr
  | [], f => some f
  | e :: l, f => if f.1 = e.1 ∧ isRet e.2.1 = false ∧ invIx e.2.1 = none then
      match step1 o ini e.2.1 e.1 e.2.2 f.2.1 f.2.2.1 f.2.2.2 with
      | some f2 => stpL o ini l f2
      | none => none
    else none
theorem EV_stp (hm : MX mi o ini rt il) : ∀ (l : List (Nat × Instr × Nat)) (f f2 : Fr), (∀ e ∈ l, il.lookup e.1 = some e.2) → stpL o ini l f = some f2 → EV d mi f2.1 f2.2.1 f2.2.2.1 f2.2.2.2 r → EV d mi f.1 f.2.1 f.2.2.1 f.2.2.2 r
  | [], f, f2, _, hs, k => by cases hs; exact k
  | e :: l, f, f2, hB, hs, k => by
    unfold stpL at hs
    split at hs
    · rename_i hc
      obtain ⟨e1, e2, e3⟩ := e
      obtain ⟨f1, ff⟩ := f
      obtain ⟨h1, h2, h3⟩ := hc
      dsimp only at h1 h2 h3 hs
      subst h1
      split at hs
      · rename_i f3 hf3
        refine EV_step hm (hB _ List.mem_cons_self) h2 h3 hf3 ?_
        exact EV_stp hm l f3 f2 (fun e he => hB e (List.mem_cons_of_mem _ he)) hs k
      · cases hs
    · cases hs
theorem r_ret {i : Instr} {v : Option Value} (hm : MX mi o ini rt il) (hl : il.lookup pc = some (i, nx)) (h1 : isRet i = true) (h2 : retOK rt i st = some v) : EV d mi pc L st M (v, M) := by
  obtain ⟨q, hq, rfl, rfl, rfl, rfl⟩ := hm
  refine ⟨1, ?_⟩
  unfold ev
  rw [hq]
  dsimp only
  rw [hl]
  dsimp only
  rw [if_pos h1, h2]
  rfl
theorem r_gI {k a : Nat} {g : Nat × Nat × Nat × Nat} {kf : Int32 → Option β} (hm : MX mi o ini rt il) (hl : il.lookup pc = some (.getfield k, nx)) (hf : flds.lookup (o, k) = some g) (ht : cty g.1 g.2.1 ≠ 4 ∧ cty g.1 g.2.1 ≠ 5) (h : gI (g.1 + 1) g.2.1 M a kf = some y) (kk : ∀ v, kf v = some y → EV d mi nx L (.int v :: st) M r) : EV d mi pc L (.ref a :: st) M r := by
  unfold gI at h
  split at h
  · rename_i hk
    refine EV_step hm hl rfl rfl (f := (nx, L, .int (mI M a g.2.1) :: st, M)) ?_ (kk _ h)
    unfold step1
    dsimp only
    rw [hf]
    dsimp only
    rw [if_pos hk]
    unfold slotA
    split
    · rename_i hz; exact absurd hz ht.1
    · rename_i hz; exact absurd hz ht.2
    · rfl
  · cases h
theorem r_gJ {k a : Nat} {g : Nat × Nat × Nat × Nat} {kf : Int64 → Option β} (hm : MX mi o ini rt il) (hl : il.lookup pc = some (.getfield k, nx)) (hf : flds.lookup (o, k) = some g) (ht : cty g.1 g.2.1 = 4) (h : gJ (g.1 + 1) g.2.1 M a kf = some y) (kk : ∀ v, kf v = some y → EV d mi nx L (.long v :: st) M r) : EV d mi pc L (.ref a :: st) M r := by
  unfold gJ at h
  split at h
  · rename_i hk
    refine EV_step hm hl rfl rfl (f := (nx, L, .long (mJ M a g.2.1) :: st, M)) ?_ (kk _ h)
    unfold step1
    dsimp only
    rw [hf]
    dsimp only
    rw [if_pos hk]
    unfold slotA
    rw [ht]
    rfl
  · cases h
theorem r_gR {k a : Nat} {g : Nat × Nat × Nat × Nat} {kf : Option Nat → Option β} (hm : MX mi o ini rt il) (hl : il.lookup pc = some (.getfield k, nx)) (hf : flds.lookup (o, k) = some g) (ht : cty g.1 g.2.1 = 5) (h : gR (g.1 + 1) g.2.1 M a kf = some y) (kk : ∀ v, kf v = some y → EV d mi nx L (rfv v :: st) M r) : EV d mi pc L (.ref a :: st) M r := by
  unfold gR at h
  split at h
  · rename_i hk
    refine EV_step hm hl rfl rfl (f := (nx, L, rfv (mR M a g.2.1) :: st, M)) ?_ (kk _ h)
    unfold step1
    dsimp only
    rw [hf]
    dsimp only
    rw [if_pos hk]
    unfold slotA
    rw [ht]
    rfl
  · cases h
theorem put_step {k a : Nat} {g : Nat × Nat × Nat × Nat} {v : Value} {M' : Mem} (hm : MX mi o ini rt il) (hl : il.lookup pc = some (.putfield k, nx)) (hf : flds.lookup (o, k) = some g) (hk : mK M a = g.1 + 1) (hfin : ffin g.1 g.2.1 = false ∨ (ini = true ∧ g.2.2.1 = 0 ∧ fdecl g.1 g.2.1 = oN o)) (hs : (match cty g.1 g.2.1, v with
          | 0, .int x => some (nx, L, st, wI M a g.2.1 x)
          | 1, .int x => if vp_nar .boolean x = x ∧ fits .boolean (.int x) = true then some (nx, L, st, wI M a g.2.1 x) else none
          | 2, .int x => if vp_nar .byte x = x ∧ fits .byte (.int x) = true then some (nx, L, st, wI M a g.2.1 x) else none
          | 4, .long x => some (nx, L, st, wJ M a g.2.1 x)
          | 5, .ref b => some (nx, L, st, wR M a g.2.1 (some b))
          | _, _ => none) = some ((nx, L, st, M') : Fr)) (kk : EV d mi nx L st M' r) : EV d mi pc L (v :: .ref a :: st) M r := by
  refine EV_step hm hl rfl rfl (f := (nx, L, st, M')) ?_ kk
  unfold step1
  dsimp only
  rw [hf]
  dsimp only
  rw [if_pos ⟨hk, hfin⟩]
  exact hs
theorem r_pI {k a : Nat} {v : Int32} {g : Nat × Nat × Nat × Nat} {kf : Mem → Option β} (hm : MX mi o ini rt il) (hl : il.lookup pc = some (.putfield k, nx)) (hf : flds.lookup (o, k) = some g) (hfin : ffin g.1 g.2.1 = false ∨ (ini = true ∧ g.2.2.1 = 0 ∧ fdecl g.1 g.2.1 = oN o)) (ht : cty g.1 g.2.1 = 0) (h : pI (g.1 + 1) g.2.1 M a v kf = some y) (kk : ∀ M', kf M' = some y → EV d mi nx L st M' r) : EV d mi pc L (.int v :: .ref a :: st) M r := by
  unfold pI at h
  split at h
  · rename_i hk
    exact put_step hm hl hf hk hfin (by rw [ht]; rfl) (kk _ h)
  · cases h
theorem r_pZ {k a : Nat} {v : Int32} {g : Nat × Nat × Nat × Nat} {kf : Mem → Option β} (hm : MX mi o ini rt il) (hl : il.lookup pc = some (.putfield k, nx)) (hf : flds.lookup (o, k) = some g) (hfin : ffin g.1 g.2.1 = false ∨ (ini = true ∧ g.2.2.1 = 0 ∧ fdecl g.1 g.2.1 = oN o)) (ht : cty g.1 g.2.1 = 1) (h : pZ (g.1 + 1) g.2.1 M a v kf = some y) (kk : ∀ M', kf M' = some y → EV d mi nx L st M' r) : EV d mi pc L (.int v :: .ref a :: st) M r := by
  unfold pZ at h
  split at h
  · rename_i hk
    refine put_step hm hl hf hk.1 hfin ?_ (kk _ h)
    rw [ht]
    exact if_pos hk.2
  · cases h
theorem r_pB {k a : Nat} {v : Int32} {g : Nat × Nat × Nat × Nat} {kf : Mem → Option β} (hm : MX mi o ini rt il) (hl : il.lookup pc = some (.putfield k, nx)) (hf : flds.lookup (o, k) = some g) (hfin : ffin g.1 g.2.1 = false ∨ (ini = true ∧ g.2.2.1 = 0 ∧ fdecl g.1 g.2.1 = oN o)) (ht : cty g.1 g.2.1 = 2) (h : pB (g.1 + 1) g.2.1 M a v kf = some y) (kk : ∀ M', kf M' = some y → EV d mi nx L st M' r) : EV d mi pc L (.int v :: .ref a :: st) M r := by
  unfold pB at h
  split at h
  · rename_i hk
    refine put_step hm hl hf hk.1 hfin ?_ (kk _ h)
    rw [ht]
    exact if_pos hk.2
  · cases h
theorem r_pJ {k a : Nat} {v : Int64} {g : Nat × Nat × Nat × Nat} {kf : Mem → Option β} (hm : MX mi o ini rt il) (hl : il.lookup pc = some (.putfield k, nx)) (hf : flds.lookup (o, k) = some g) (hfin : ffin g.1 g.2.1 = false ∨ (ini = true ∧ g.2.2.1 = 0 ∧ fdecl g.1 g.2.1 = oN o)) (ht : cty g.1 g.2.1 = 4) (h : pJ (g.1 + 1) g.2.1 M a v kf = some y) (kk : ∀ M', kf M' = some y → EV d mi nx L st M' r) : EV d mi pc L (.long v :: .ref a :: st) M r := by
  unfold pJ at h
  split at h
  · rename_i hk
    exact put_step hm hl hf hk hfin (by rw [ht]; rfl) (kk _ h)
  · cases h
theorem r_pR {k a b : Nat} {g : Nat × Nat × Nat × Nat} {kf : Mem → Option β} (hm : MX mi o ini rt il) (hl : il.lookup pc = some (.putfield k, nx)) (hf : flds.lookup (o, k) = some g) (hfin : ffin g.1 g.2.1 = false ∨ (ini = true ∧ g.2.2.1 = 0 ∧ fdecl g.1 g.2.1 = oN o)) (ht : cty g.1 g.2.1 = 5) (h : pR (g.1 + 1) g.2.1 M a b kf = some y) (kk : ∀ M', kf M' = some y → EV d mi nx L st M' r) : EV d mi pc L (.ref b :: .ref a :: st) M r := by
  unfold pR at h
  split at h
  · rename_i hk
    exact put_step hm hl hf hk hfin (by rw [ht]; rfl) (kk _ h)
  · cases h
theorem r_aI {a : Nat} {i : Int32} {kf : Int32 → Option β} (hm : MX mi o ini rt il) (hl : il.lookup pc = some (.iaload, nx)) (h : aI M a i kf = some y) (kk : ∀ v, kf v = some y → EV d mi nx L (.int v :: st) M r) : EV d mi pc L (.int i :: .ref a :: st) M r := by
  unfold aI at h
  split at h
  · rename_i hk
    exact EV_step hm hl rfl rfl (f := (nx, L, .int (mI M a i.toNatClampNeg) :: st, M)) (if_pos hk) (kk _ h)
  · cases h
theorem r_aX {i : Int32} {kf : Int32 → Option β} (hm : MX mi o ini rt il) (hl : il.lookup pc = some (.iaload, nx)) (h : aX M i kf = some y) (kk : ∀ v, kf v = some y → EV d mi nx L (.int v :: st) M r) : EV d mi pc L (.int i :: .retAddr 0 :: st) M r := by
  unfold aX at h
  split at h
  · rename_i hk
    exact EV_step hm hl rfl rfl (f := (nx, L, .int ((mX M).2 i.toNatClampNeg) :: st, M)) (if_pos hk) (kk _ h)
  · cases h
theorem r_sI {a : Nat} {i v : Int32} {kf : Mem → Option β} (hm : MX mi o ini rt il) (hl : il.lookup pc = some (.iastore, nx)) (h : sI M a i v kf = some y) (kk : ∀ M', kf M' = some y → EV d mi nx L st M' r) : EV d mi pc L (.int v :: .int i :: .ref a :: st) M r := by
  unfold sI at h
  split at h
  · rename_i hk
    exact EV_step hm hl rfl rfl (f := (nx, L, st, wI M a i.toNatClampNeg v)) (if_pos hk) (kk _ h)
  · cases h
theorem r_aB {a : Nat} {i : Int32} {kf : Int32 → Option β} (hm : MX mi o ini rt il) (hl : il.lookup pc = some (.baload, nx)) (h : aB M a i kf = some y) (kk : ∀ v, kf v = some y → EV d mi nx L (.int v :: st) M r) : EV d mi pc L (.int i :: .ref a :: st) M r := by
  unfold aB at h
  split at h
  · rename_i hk
    exact EV_step hm hl rfl rfl (f := (nx, L, .int (mI M a i.toNatClampNeg) :: st, M)) (if_pos hk) (kk _ h)
  · cases h
theorem r_aO {a : Nat} {i : Int32} {kf : Int32 → Option β} (hm : MX mi o ini rt il) (hl : il.lookup pc = some (.baload, nx)) (h : aO a i kf = some y) (kk : ∀ v, kf v = some y → EV d mi nx L (.int v :: st) M r) : EV d mi pc L (.int i :: .retAddr a :: st) M r := by
  unfold aO at h
  split at h
  · rename_i hk
    exact EV_step hm hl rfl rfl (f := (nx, L, .int ((oldB a).getD i.toNatClampNeg 0) :: st, M)) (if_pos hk) (kk _ h)
  · cases h
theorem r_sB {a : Nat} {i v : Int32} {kf : Mem → Option β} (hm : MX mi o ini rt il) (hl : il.lookup pc = some (.bastore, nx)) (h : sB M a i v kf = some y) (kk : ∀ M', kf M' = some y → EV d mi nx L st M' r) : EV d mi pc L (.int v :: .int i :: .ref a :: st) M r := by
  unfold sB at h
  split at h
  · rename_i hin
    split at h
    · rename_i hk
      refine EV_step hm hl rfl rfl (f := (nx, L, st, wI M a i.toNatClampNeg (vp_nar .byte v))) ?_ (kk _ h)
      unfold step1
      dsimp only
      rw [if_pos hin, if_pos hk]
    · rename_i hk1
      split at h
      · rename_i hk
        refine EV_step hm hl rfl rfl (f := (nx, L, st, wI M a i.toNatClampNeg (vp_nar .boolean v))) ?_ (kk _ h)
        unfold step1
        dsimp only
        rw [if_pos hin, if_neg hk1, if_pos hk]
      · cases h
  · cases h
theorem r_aR {a : Nat} {i : Int32} {kf : Option Nat → Option β} (hm : MX mi o ini rt il) (hl : il.lookup pc = some (.aaload, nx)) (h : aR M a i kf = some y) (kk : ∀ v, kf v = some y → EV d mi nx L (rfv v :: st) M r) : EV d mi pc L (.int i :: .ref a :: st) M r := by
  unfold aR at h
  split at h
  · rename_i hk
    exact EV_step hm hl rfl rfl (f := (nx, L, rfv (mR M a i.toNatClampNeg) :: st, M)) (if_pos hk) (kk _ h)
  · cases h
theorem r_sR {a b : Nat} {i : Int32} {kf : Mem → Option β} (hm : MX mi o ini rt il) (hl : il.lookup pc = some (.aastore, nx)) (h : sR M a i b kf = some y) (kk : ∀ M', kf M' = some y → EV d mi nx L st M' r) : EV d mi pc L (.ref b :: .int i :: .ref a :: st) M r := by
  unfold sR at h
  split at h
  · rename_i hk
    exact EV_step hm hl rfl rfl (f := (nx, L, st, wR M a i.toNatClampNeg (some b))) (if_pos hk) (kk _ h)
  · cases h
theorem r_aN {a : Nat} {kf : Int32 → Option β} (hm : MX mi o ini rt il) (hl : il.lookup pc = some (.arraylength, nx)) (h : aN M a kf = some y) (kk : ∀ v, kf v = some y → EV d mi nx L (.int v :: st) M r) : EV d mi pc L (.ref a :: st) M r := by
  unfold aN at h
  split at h
  · rename_i hk
    exact EV_step hm hl rfl rfl (f := (nx, L, .int (Int32.ofNat (mL M a)) :: st, M)) (if_pos hk) (kk _ h)
  · cases h
theorem r_nO {k : Nat} {g : Nat × Nat × Nat × Nat} {kf : Nat → Mem → Option β} (hm : MX mi o ini rt il) (hl : il.lookup pc = some (.new k, nx)) (hf : news.lookup (o, k) = some g) (h : nO M (g.1 + 1) (cN g.1) kf = some y) (kk : ∀ a M', kf a M' = some y → EV d mi nx L (.ref a :: st) M' r) : EV d mi pc L st M r := by
  refine EV_step hm hl rfl rfl (f := (nx, L, .ref (mn M) :: st, nC M (g.1 + 1) (cN g.1))) ?_ (kk _ _ h)
  unfold step1
  dsimp only
  rw [hf]
theorem r_nA {t : ArrayType} {x : Int32} {kf : Nat → Mem → Option β} (hm : MX mi o ini rt il) (hl : il.lookup pc = some (.newarray t, nx)) (hak : akOf t ≠ 0) (h : nA M (akOf t) x kf = some y) (kk : ∀ a M', kf a M' = some y → EV d mi nx L (.ref a :: st) M' r) : EV d mi pc L (.int x :: st) M r := by
  unfold nA at h
  split at h
  · rename_i hk
    exact EV_step hm hl rfl rfl (f := (nx, L, .ref (mn M) :: st, nC M (akOf t) x.toNatClampNeg)) (if_pos ⟨hk.1, hk.2, hak⟩) (kk _ _ h)
  · cases h
theorem r_nR {k : Nat} {g : Nat × Nat × Nat} {x : Int32} {kf : Nat → Mem → Option β} (hm : MX mi o ini rt il) (hl : il.lookup pc = some (.anewarray k, nx)) (hf : anews.lookup (o, k) = some g) (h : nA M g.1 x kf = some y) (kk : ∀ a M', kf a M' = some y → EV d mi nx L (.ref a :: st) M' r) : EV d mi pc L (.int x :: st) M r := by
  unfold nA at h
  split at h
  · rename_i hk
    refine EV_step hm hl rfl rfl (f := (nx, L, .ref (mn M) :: st, nC M g.1 x.toNatClampNeg)) ?_ (kk _ _ h)
    unfold step1
    dsimp only
    rw [hf]
    exact if_pos hk
  · cases h
theorem r_dv {x z : Int32} {kf : Int32 → Option β} (hm : MX mi o ini rt il) (hl : il.lookup pc = some (.idiv, nx)) (h : dvI x z kf = some y) (kk : ∀ v, kf v = some y → EV d mi nx L (.int v :: st) M r) : EV d mi pc L (.int z :: .int x :: st) M r := by
  unfold dvI at h
  split at h
  · cases h
  · rename_i hz
    exact EV_step hm hl rfl rfl (f := (nx, L, .int (x / z) :: st, M)) (if_neg hz) (kk _ h)
theorem r_rm {x z : Int32} {kf : Int32 → Option β} (hm : MX mi o ini rt il) (hl : il.lookup pc = some (.irem, nx)) (h : rmI x z kf = some y) (kk : ∀ v, kf v = some y → EV d mi nx L (.int v :: st) M r) : EV d mi pc L (.int z :: .int x :: st) M r := by
  unfold rmI at h
  split at h
  · cases h
  · rename_i hz
    exact EV_step hm hl rfl rfl (f := (nx, L, .int (x - x / z * z) :: st, M)) (if_neg hz) (kk _ h)
theorem r_nm {x : Int32} {kf : Int32 → Option β} (h : nmI x kf = some y) (kk : ∀ v, kf v = some y → EV d mi pc L (.int v :: st) M r) : EV d mi pc L (.int x :: st) M r := kk x h
theorem r_if {cd : ClassFile.Cond} {off : Int} {x : Int32} {tgt : Nat} (hm : MX mi o ini rt il) (hl : il.lookup pc = some (.ifCond cd off, nx)) (ho : 0 ≤ (pc : Int) + off) (ht : jmp pc off = tgt) (kt : cndOf cd x 0 = true → EV d mi tgt L st M r) (kf : cndOf cd x 0 = false → EV d mi nx L st M r) : EV d mi pc L (.int x :: st) M r := by
  subst ht
  cases hc : cndOf cd x 0 with
  | true =>
    refine EV_step hm hl rfl rfl (f := (jmp pc off, L, st, M)) ?_ (kt hc)
    unfold step1
    dsimp only
    rw [if_pos ho, if_pos hc]
  | false =>
    refine EV_step hm hl rfl rfl (f := (nx, L, st, M)) ?_ (kf hc)
    unfold step1
    dsimp only
    rw [if_pos ho, if_neg (by rw [hc]; decide)]
theorem r_ic {cd : ClassFile.Cond} {off : Int} {x z : Int32} {tgt : Nat} (hm : MX mi o ini rt il) (hl : il.lookup pc = some (.if_icmp cd off, nx)) (ho : 0 ≤ (pc : Int) + off) (ht : jmp pc off = tgt) (kt : cndOf cd x z = true → EV d mi tgt L st M r) (kf : cndOf cd x z = false → EV d mi nx L st M r) : EV d mi pc L (.int z :: .int x :: st) M r := by
  subst ht
  cases hc : cndOf cd x z with
  | true =>
    refine EV_step hm hl rfl rfl (f := (jmp pc off, L, st, M)) ?_ (kt hc)
    unfold step1
    dsimp only
    rw [if_pos ho, if_pos hc]
  | false =>
    refine EV_step hm hl rfl rfl (f := (nx, L, st, M)) ?_ (kf hc)
    unfold step1
    dsimp only
    rw [if_pos ho, if_neg (by rw [hc]; decide)]
/-- an if of the function against a branch of the code -/
theorem h_ite {c : Prop} {inst : Decidable c} {A B : Option β} {b : Bool} {G : Prop} (h : @ite _ c inst A B = some y) (hb : b = true ↔ c) (kt : A = some y → b = true → G) (kf : B = some y → b = false → G) : G := by
  by_cases hc : c
  · rw [if_pos hc] at h
    exact kt h (hb.mpr hc)
  · rw [if_neg hc] at h
    exact kf h (by cases hz : b with
      | true => exact absurd (hb.mp hz) hc
      | false => rfl)
theorem ev_fuel : ∀ (n d mi pc : Nat) (L : List (Option Value)) (st : List Value) (M : Mem) (r : Option Value × Mem), ev n d mi pc L st M = some r → ev (n + 1) d mi pc L st M = some r := by
  intro n
  induction n with
  | zero => intro d mi pc L st M r h; cases h
  | succ n ih =>
    intro d mi pc L st M r h
    unfold ev at h ⊢
    cases hq : mtabL[mi]? with
    | none => rw [hq] at h; cases h
    | some q =>
      rw [hq] at h
      dsimp only at h ⊢
      cases hl : q.2.2.2.2.2.lookup pc with
      | none => rw [hl] at h; cases h
      | some e =>
        rw [hl] at h
        dsimp only at h ⊢
        by_cases hi : isRet e.1 = true
        · rw [if_pos hi] at h ⊢
          exact h
        · rw [if_neg hi] at h ⊢
          cases hk : invIx e.1 with
          | none =>
            rw [hk] at h
            dsimp only at h ⊢
            cases hs : step1 q.2.2.2.2.1 (decide (q.1.name = "<init>")) e.1 pc e.2 L st M with
            | none => rw [hs] at h; cases h
            | some f =>
              rw [hs] at h
              dsimp only at h ⊢
              exact ih _ _ _ _ _ _ _ h
          | some k =>
            rw [hk] at h
            dsimp only at h ⊢
            cases hS : sites.lookup (q.2.2.2.2.1, k) with
            | none => rw [hS] at h; cases h
            | some S =>
              rw [hS] at h
              dsimp only at h ⊢
              by_cases hm : modeI S.1 e.1 = false ∨ d = 0
              · rw [if_pos hm] at h; cases h
              · rw [if_neg hm] at h ⊢
                by_cases h8 : S.1 = 8
                · rw [if_pos h8] at h ⊢
                  split at h
                  · split at h
                    · rename_i hc
                      try dsimp only
                      rw [if_pos hc]
                      exact ih _ _ _ _ _ _ _ h
                    · cases h
                  · cases h
                · rw [if_neg h8] at h ⊢
                  by_cases h9 : S.1 = 9
                  · rw [if_pos h9] at h ⊢
                    split at h
                    · split at h
                      · rename_i hc
                        try dsimp only
                        rw [if_pos hc]
                        exact ih _ _ _ _ _ _ _ h
                      · cases h
                    · cases h
                  · rw [if_neg h9] at h ⊢
                    split at h
                    · rename_i hc
                      rw [if_pos hc]
                      cases ht : mtab[S.2.1]? with
                      | none => rw [ht] at h; cases h
                      | some t =>
                        rw [ht] at h
                        dsimp only at h ⊢
                        split at h
                        · cases h
                        · rename_i hlen
                          rw [if_neg hlen]
                          cases he : ev n (d - 1) S.2.1 0 (entL t.2.2.1 (st.take (naOf S.1 S.2.2.1)).reverse) [] M with
                          | none => rw [he] at h; cases h
                          | some r1 =>
                            rw [he] at h
                            rw [ih _ _ _ _ _ _ _ he]
                            exact ih _ _ _ _ _ _ _ h
                    · cases h
theorem ev_more {n k d mi pc : Nat} {L : List (Option Value)} {st : List Value} {M : Mem} {r : Option Value × Mem} (h : ev n d mi pc L st M = some r) : ev (n + k) d mi pc L st M = some r := by
  induction k with
  | zero => exact h
  | succ k ih => exact ev_fuel _ _ _ _ _ _ _ _ ih
theorem EV_call {i : Instr} {k : Nat} {S : Nat × Nat × Nat × List Nat} {t : MT} {v : Option Value} {M1 : Mem} (as rest : List Value) (hm : MX mi o ini rt il) (hl : il.lookup pc = some (i, nx)) (hi : invIx i = some k) (hr : isRet i = false) (hS : sites.lookup (o, k) = some S) (hmd : modeI S.1 i = true) (h8 : S.1 ≠ 8) (h9 : S.1 ≠ 9) (hd : 0 < d) (ht : mtab[S.2.1]? = some t) (hlen : as.length = naOf S.1 S.2.2.1) (hml : as.length ≤ t.2.2.1) (hst : st = as.reverse ++ rest) (hca : cat1s as = true) (hcs : catS rest ≤ 8) (hrc : rcvOK S.1 S.2.1 M as = true)
    (he : EV (d - 1) S.2.1 0 (entL t.2.2.1 as) [] M (v, M1)) (kk : EV d mi nx L (v.toList ++ rest) M1 r) : EV d mi pc L st M r := by
  obtain ⟨q, hq, rfl, rfl, rfl, rfl⟩ := hm
  obtain ⟨n1, hn1⟩ := he
  obtain ⟨n2, hn2⟩ := kk
  have h1 : ev (n1 + n2) (d - 1) S.2.1 0 (entL t.2.2.1 as) [] M = some (v, M1) := ev_more hn1
  have h2 : ev (n1 + n2) d mi nx L (v.toList ++ rest) M1 = some r := by rw [Nat.add_comm]; exact ev_more hn2
  have hrl : as.reverse.length = naOf S.1 S.2.2.1 := by rw [List.length_reverse]; exact hlen
  have e1 : st.take (naOf S.1 S.2.2.1) = as.reverse := by rw [hst, ← hrl, List.take_left]
  have e2 : st.drop (naOf S.1 S.2.2.1) = rest := by rw [hst, ← hrl, List.drop_left]
  refine ⟨n1 + n2 + 1, ?_⟩
  unfold ev
  rw [hq]
  dsimp only
  rw [hl]
  dsimp only
  rw [hr, hi]
  dsimp only
  rw [if_neg (by decide), hS]
  dsimp only
  rw [if_neg (by rw [hmd]; exact fun z => z.elim (fun z => by cases z) (fun z => by omega)), if_neg h8, if_neg h9, e1, e2, List.reverse_reverse, if_pos ⟨by rw [hst, List.length_append, hrl]; omega, hca, hcs, hrc⟩, ht]
  dsimp only
  rw [if_neg (by omega), h1]
  exact h2
theorem r_oi {k a : Nat} {S : Nat × Nat × Nat × List Nat} (hm : MX mi o ini rt il) (hl : il.lookup pc = some (.invokespecial k, nx)) (hS : sites.lookup (o, k) = some S) (h8 : S.1 = 8) (hd : 0 < d) (hcs : catS st ≤ 8) (kk : EV d mi nx L st M r) : EV d mi pc L (.ref a :: st) M r := by
  obtain ⟨q, hq, rfl, rfl, rfl, rfl⟩ := hm
  obtain ⟨n, hn⟩ := kk
  refine ⟨n + 1, ?_⟩
  unfold ev
  rw [hq]
  dsimp only
  rw [hl]
  dsimp only
  rw [show isRet (Instr.invokespecial k) = false from rfl, if_neg Bool.false_ne_true, show invIx (Instr.invokespecial k) = some k from rfl]
  dsimp only
  rw [hS]
  dsimp only
  rw [if_neg (by rw [h8]; exact fun z => z.elim (fun z => by cases z) (fun z => by omega)), if_pos h8, if_pos hcs]
  exact hn
theorem r_cp {k a b : Nat} {S : Nat × Nat × Nat × List Nat} {sp dp x : Int32} {kf : Mem → Option β} (hm : MX mi o ini rt il) (hl : il.lookup pc = some (.invokestatic k, nx)) (hS : sites.lookup (o, k) = some S) (h9 : S.1 = 9) (hd : 0 < d) (hcs : catS st ≤ 8) (h : cpA M a sp b dp x kf = some y) (kk : ∀ M', kf M' = some y → EV d mi nx L st M' r) : EV d mi pc L (.int x :: .int dp :: .ref b :: .int sp :: .ref a :: st) M r := by
  obtain ⟨q, hq, rfl, rfl, rfl, rfl⟩ := hm
  unfold cpA at h
  split at h
  · rename_i hc
    obtain ⟨c1, c2, c3, c4, c5, c6, c7⟩ := hc
    obtain ⟨n, hn⟩ := kk _ h
    refine ⟨n + 1, ?_⟩
    unfold ev
    rw [hq]
    dsimp only
    rw [hl]
    dsimp only
    rw [show isRet (Instr.invokestatic k) = false from rfl, if_neg Bool.false_ne_true, show invIx (Instr.invokestatic k) = some k from rfl]
    dsimp only
    rw [hS]
    dsimp only
    rw [if_neg (by rw [h9]; exact fun z => z.elim (fun z => by cases z) (fun z => by omega)), if_neg (by rw [h9]; decide), if_pos h9, if_pos ⟨c1, c2, c3, c4, c5, c6, c7, hcs⟩]
    exact hn
  · cases h
theorem h_cI {x : Option (Int32 × Mem)} {kf : Int32 → Mem → Option β} {G : Prop} (h : cI x kf = some y) (kk : ∀ v M', x = some (v, M') → kf v M' = some y → G) : G := by
  cases x with
  | none => cases h
  | some r => exact kk r.1 r.2 rfl h
theorem h_cR {x : Option (Option Nat × Mem)} {kf : Option Nat → Mem → Option β} {G : Prop} (h : cR x kf = some y) (kk : ∀ v M', x = some (v, M') → kf v M' = some y → G) : G := by
  cases x with
  | none => cases h
  | some r => exact kk r.1 r.2 rfl h
theorem h_cV {x : Option Mem} {kf : Mem → Option β} {G : Prop} (h : cV x kf = some y) (kk : ∀ M', x = some M' → kf M' = some y → G) : G := by
  cases x with
  | none => cases h
  | some r => exact kk r rfl h
theorem h_ck {a c : Nat} {X : Option β} {G : Prop} (h : ck M a c X = some y) (kk : mK M a = c → X = some y → G) : G := by
  unfold ck at h
  split at h
  · rename_i hc
    exact kk hc h
  · cases h
theorem h_nrZ {t : FieldType} {v : Int32} {X : Option β} {G : Prop} (h : nrZ t v X = some y) (kk : narrow t (.int v) = .int v → X = some y → G) : G := by
  unfold nrZ at h
  split at h
  · rename_i hc
    exact kk hc h
  · cases h
theorem h_onR {x : Option Nat} {X : Option β} {Y : Nat → Option β} {G : Option Nat → Prop} (h : onR x X Y = some y) (h1 : X = some y → G none) (h2 : ∀ a, Y a = some y → G (some a)) : G x := by
  cases x with
  | none => exact h1 h
  | some a => exact h2 a h
theorem cat_rfv (o : Option Nat) : (rfv o).category = 1 := by cases o <;> rfl
end ROWS
end
section
/-! Locals that nobody asks for any more may be forgotten -/
def lsub (A B : List (Option Value)) : Prop := A.length = B.length ∧ ∀ (i : Nat) (v : Value), lget A i = some v → lget B i = some v
theorem lsub_lclr {A B : List (Option Value)} {i : Nat} (h : lsub A B) {j : Nat} {v : Value} (hj : lget (lclr A i) j = some v) : j = i ∨ lget (lclr B i) j = some v := by
  obtain ⟨h1, h2⟩ := lclr_get hj
  have h3 := h.2 _ _ h1
  by_cases hi : j + 1 = i
  · right
    subst hi
    have hc : ¬ v.category = 2 := fun z => h2 ⟨rfl, z⟩
    unfold lclr
    dsimp only
    rw [h3]
    dsimp only
    rw [if_neg hc]
    exact h3
  · right
    unfold lclr
    cases i with
    | zero => exact h3
    | succ k =>
      dsimp only
      cases hk : lget B k with
      | none => exact h3
      | some u =>
        dsimp only
        split
        · rw [lget_set, if_neg (fun z => hi (by omega))]
          exact h3
        · exact h3
theorem lsub_lset {A B : List (Option Value)} {i : Nat} {v : Value} (h : lsub A B) : lsub (lset A i v) (lset B i v) := by
  refine ⟨by unfold lset; rw [List.length_set, List.length_set, lclr_len, lclr_len]; exact h.1, fun j u hj => ?_⟩
  unfold lset at hj ⊢
  rw [lget_set] at hj ⊢
  rw [lclr_len] at hj ⊢
  rw [← h.1]
  split at hj
  · rename_i hc
    rw [if_pos hc]; exact hj
  · rename_i hc
    rw [if_neg hc]
    rcases lsub_lclr h hj with z | z
    · subst z
      have := lget_lt hj
      rw [lclr_len] at this
      exact absurd ⟨rfl, this⟩ hc
    · exact z
theorem lsub_lsetL {A B : List (Option Value)} {i : Nat} {v : Value} (h : lsub A B) : lsub (lsetL A i v) (lsetL B i v) := by
  refine ⟨by unfold lsetL; rw [List.length_set, List.length_set, List.length_set, List.length_set, lclr_len, lclr_len]; exact h.1, fun j u hj => ?_⟩
  have h1 := lsub_lset (i := i) (v := v) h
  have e1 : lsetL A i v = (lset A i v).set (i + 1) none := rfl
  have e2 : lsetL B i v = (lset B i v).set (i + 1) none := rfl
  rw [e1, lget_set] at hj
  rw [e2, lget_set, ← h1.1]
  split at hj
  · cases hj
  · rename_i hc
    rw [if_neg hc]
    exact h1.2 _ _ hj
theorem step_weak {o : Nat} {ini : Bool} {i : Instr} {pc nx : Nat} {A B : List (Option Value)} {st : List Value} {M : Mem} {f : Fr} (hs : lsub A B) (h : step1 o ini i pc nx A st M = some f) : ∃ L1, step1 o ini i pc nx B st M = some (f.1, L1, f.2.2.1, f.2.2.2) ∧ lsub f.2.1 L1 := by
  have hlen := hs.1
  cases i with
  | iload_n k =>
    unfold step1 at h ⊢
    dsimp only at h ⊢
    split at h
    · rename_i x hx
      cases h
      rw [hs.2 _ _ hx]
      exact ⟨B, rfl, hs⟩
    · cases h
  | iload k =>
    unfold step1 at h ⊢
    dsimp only at h ⊢
    split at h
    · rename_i x hx
      cases h
      rw [hs.2 _ _ hx]
      exact ⟨B, rfl, hs⟩
    · cases h
  | lload_n k =>
    unfold step1 at h ⊢
    dsimp only at h ⊢
    split at h
    · rename_i x hx
      cases h
      rw [hs.2 _ _ hx]
      exact ⟨B, rfl, hs⟩
    · cases h
  | lload k =>
    unfold step1 at h ⊢
    dsimp only at h ⊢
    split at h
    · rename_i x hx
      cases h
      rw [hs.2 _ _ hx]
      exact ⟨B, rfl, hs⟩
    · cases h
  | aload_n k =>
    unfold step1 at h ⊢
    dsimp only at h ⊢
    split at h
    · rename_i x hx
      split at h
      · rename_i hv
        cases h
        rw [hs.2 _ _ hx]
        exact ⟨B, if_pos hv, hs⟩
      · cases h
    · cases h
  | aload k =>
    unfold step1 at h ⊢
    dsimp only at h ⊢
    split at h
    · rename_i x hx
      split at h
      · rename_i hv
        cases h
        rw [hs.2 _ _ hx]
        exact ⟨B, if_pos hv, hs⟩
      · cases h
    · cases h
  | iinc k n =>
    unfold step1 at h ⊢
    dsimp only at h ⊢
    split at h
    · rename_i x hx
      split at h
      · rename_i hv
        cases h
        rw [hs.2 _ _ hx]
        exact ⟨_, if_pos (by rw [← hlen]; exact hv), lsub_lset hs⟩
      · cases h
    · cases h
  | istore_n k =>
    unfold step1 at h ⊢
    dsimp only at h ⊢
    split at h
    · split at h
      · rename_i hv
        cases h
        exact ⟨_, if_pos (by rw [← hlen]; exact hv), lsub_lset hs⟩
      · cases h
    · cases h
  | istore k =>
    unfold step1 at h ⊢
    dsimp only at h ⊢
    split at h
    · split at h
      · rename_i hv
        cases h
        exact ⟨_, if_pos (by rw [← hlen]; exact hv), lsub_lset hs⟩
      · cases h
    · cases h
  | lstore_n k =>
    unfold step1 at h ⊢
    dsimp only at h ⊢
    split at h
    · split at h
      · rename_i hv
        cases h
        exact ⟨_, if_pos (by rw [← hlen]; exact hv), lsub_lsetL hs⟩
      · cases h
    · cases h
  | lstore k =>
    unfold step1 at h ⊢
    dsimp only at h ⊢
    split at h
    · split at h
      · rename_i hv
        cases h
        exact ⟨_, if_pos (by rw [← hlen]; exact hv), lsub_lsetL hs⟩
      · cases h
    · cases h
  | astore_n k =>
    unfold step1 at h ⊢
    dsimp only at h ⊢
    split at h
    · split at h
      · rename_i hv
        cases h
        exact ⟨_, if_pos (by rw [← hlen]; exact hv), lsub_lset hs⟩
      · cases h
    · cases h
  | astore k =>
    unfold step1 at h ⊢
    dsimp only at h ⊢
    split at h
    · split at h
      · rename_i hv
        cases h
        exact ⟨_, if_pos (by rw [← hlen]; exact hv), lsub_lset hs⟩
      · cases h
    · cases h
  | lookupswitch dflt ps =>
    unfold step1 at h ⊢
    dsimp only at h ⊢
    split at h
    · split at h
      · rename_i hc
        cases h
        exact ⟨B, if_pos hc, hs⟩
      · cases h
    · cases h
  | tableswitch dflt lo hi offs =>
    unfold step1 at h ⊢
    dsimp only at h ⊢
    split at h
    · split at h
      · rename_i hc
        split at h
        · rename_i ho
          cases h
          exact ⟨B, by rw [if_pos hc, if_pos ho], hs⟩
        · cases h
      · rename_i hc
        split at h
        · rename_i off hoff
          split at h
          · rename_i ho
            cases h
            refine ⟨B, ?_, hs⟩
            dsimp only
            rw [if_neg hc]
            exact if_pos ho
          · cases h
        · cases h
    · cases h
  | _ =>
    unfold step1 at h ⊢
    dsimp only at h ⊢
    first
      | (cases h; done)
      | (cases h; exact ⟨B, rfl, hs⟩)
      | (repeat' split at h
         all_goals first
           | (cases h; done)
           | (cases h; exact ⟨B, rfl, hs⟩)
           | (cases h; refine ⟨B, ?_, hs⟩; simp_all; done))
theorem ev_weak : ∀ (n d mi pc : Nat) (A B : List (Option Value)) (st : List Value) (M : Mem) (r : Option Value × Mem), lsub A B → ev n d mi pc A st M = some r → ev n d mi pc B st M = some r := by
  intro n
  induction n with
  | zero => intro d mi pc A B st M r hs h; cases h
  | succ n ih =>
    intro d mi pc A B st M r hs h
    unfold ev at h ⊢
    cases hq : mtabL[mi]? with
    | none => rw [hq] at h; cases h
    | some q =>
      rw [hq] at h
      dsimp only at h ⊢
      cases hl : q.2.2.2.2.2.lookup pc with
      | none => rw [hl] at h; cases h
      | some e =>
        rw [hl] at h
        dsimp only at h ⊢
        by_cases hi : isRet e.1 = true
        · rw [if_pos hi] at h ⊢
          exact h
        · rw [if_neg hi] at h ⊢
          cases hk : invIx e.1 with
          | none =>
            rw [hk] at h
            dsimp only at h ⊢
            cases hf : step1 q.2.2.2.2.1 (decide (q.1.name = "<init>")) e.1 pc e.2 A st M with
            | none => rw [hf] at h; cases h
            | some f =>
              rw [hf] at h
              dsimp only at h
              obtain ⟨L1, g1, g2⟩ := step_weak hs hf
              rw [g1]
              dsimp only
              exact ih _ _ _ _ _ _ _ _ g2 h
          | some k =>
            rw [hk] at h
            dsimp only at h ⊢
            cases hS : sites.lookup (q.2.2.2.2.1, k) with
            | none => rw [hS] at h; cases h
            | some S =>
              rw [hS] at h
              dsimp only at h ⊢
              by_cases hm : modeI S.1 e.1 = false ∨ d = 0
              · rw [if_pos hm] at h; cases h
              · rw [if_neg hm] at h ⊢
                by_cases h8 : S.1 = 8
                · rw [if_pos h8] at h ⊢
                  split at h
                  · split at h
                    · rename_i hc
                      try dsimp only
                      rw [if_pos hc]
                      exact ih _ _ _ _ _ _ _ _ hs h
                    · cases h
                  · cases h
                · rw [if_neg h8] at h ⊢
                  by_cases h9 : S.1 = 9
                  · rw [if_pos h9] at h ⊢
                    split at h
                    · split at h
                      · rename_i hc
                        try dsimp only
                        rw [if_pos hc]
                        exact ih _ _ _ _ _ _ _ _ hs h
                      · cases h
                    · cases h
                  · rw [if_neg h9] at h ⊢
                    split at h
                    · rename_i hc
                      rw [if_pos hc]
                      cases ht : mtab[S.2.1]? with
                      | none => rw [ht] at h; cases h
                      | some t =>
                        rw [ht] at h
                        dsimp only at h ⊢
                        split at h
                        · cases h
                        · rename_i hlen
                          rw [if_neg hlen]
                          cases he : ev n (d - 1) S.2.1 0 (entL t.2.2.1 (st.take (naOf S.1 S.2.2.1)).reverse) [] M with
                          | none => rw [he] at h; cases h
                          | some r1 =>
                            rw [he] at h
                            dsimp only at h ⊢
                            exact ih _ _ _ _ _ _ _ _ hs h
                    · cases h
theorem EV_forget {d mi pc : Nat} {A B : List (Option Value)} {st : List Value} {M : Mem} {r : Option Value × Mem} (hs : lsub A B) (h : EV d mi pc A st M r) : EV d mi pc B st M r := by
  obtain ⟨n, hn⟩ := h
  exact ⟨n, ev_weak _ _ _ _ _ _ _ _ _ hs hn⟩
/-- entry by entry: none, or the same -/
def lsubP : List (Option Value) → List (Option Value) → Prop
  | [], [] => True
  | a :: A, b :: B => (a = none ∨ a = b) ∧ lsubP A B
  | _, _ => False
theorem lsub_of : ∀ (A B : List (Option Value)), lsubP A B → lsub A B
  | [], [], _ => ⟨rfl, fun i v h => h⟩
  | a :: A, b :: B, h => by
    obtain ⟨h1, h2⟩ := h
    obtain ⟨g1, g2⟩ := lsub_of A B h2
    refine ⟨by rw [List.length_cons, List.length_cons, g1], fun i v hv => ?_⟩
    cases i with
    | zero =>
      unfold lget at hv ⊢
      rw [List.getElem?_cons_zero] at hv ⊢
      rcases h1 with rfl | rfl
      · cases hv
      · exact hv
    | succ i =>
      unfold lget at hv ⊢
      rw [List.getElem?_cons_succ] at hv ⊢
      exact g2 i v hv
  | [], _ :: _, h => absurd h (by intro z; exact z)
  | _ :: _, [], h => absurd h (by intro z; exact z)
/-! more rows: references that must be there; branches; switches; calls by kind -/
section ROWS2
variable {β : Type} {y : β} {d mi pc nx o : Nat} {ini : Bool} {rt : Option FieldType} {il : List (Nat × Instr × Nat)} {L : List (Option Value)} {st : List Value} {M : Mem} {r : Option Value × Mem}
def gA {α : Type} (c j : Nat) (M : Mem) (a : Nat) (k : Nat → Option α) : Option α := gR c j M a (fun o => onR o none k)
def aA {α : Type} (M : Mem) (a : Nat) (i : Int32) (k : Nat → Option α) : Option α := aR M a i (fun o => onR o none k)
theorem r_gA {k a : Nat} {g : Nat × Nat × Nat × Nat} {kf : Nat → Option β} (hm : MX mi o ini rt il) (hl : il.lookup pc = some (.getfield k, nx)) (hf : flds.lookup (o, k) = some g) (ht : cty g.1 g.2.1 = 5) (h : gA (g.1 + 1) g.2.1 M a kf = some y) (kk : ∀ b, kf b = some y → EV d mi nx L (.ref b :: st) M r) : EV d mi pc L (.ref a :: st) M r :=
  r_gR hm hl hf ht h (fun v hv => h_onR (G := fun v => EV d mi nx L (rfv v :: st) M r) hv (fun z => by cases z) (fun b hb => kk b hb))
theorem r_aA {a : Nat} {i : Int32} {kf : Nat → Option β} (hm : MX mi o ini rt il) (hl : il.lookup pc = some (.aaload, nx)) (h : aA M a i kf = some y) (kk : ∀ b, kf b = some y → EV d mi nx L (.ref b :: st) M r) : EV d mi pc L (.int i :: .ref a :: st) M r :=
  r_aR hm hl h (fun v hv => h_onR (G := fun v => EV d mi nx L (rfv v :: st) M r) hv (fun z => by cases z) (fun b hb => kk b hb))
theorem EV_stq {pc' : Nat} {L' : List (Option Value)} {st' : List Value} {l : List (Nat × Instr × Nat)} (hm : MX mi o ini rt il) (hB : ∀ e ∈ l, il.lookup e.1 = some e.2) (hs : stpL o ini l (pc, L, st, M) = some (pc', L', st', M)) (k : EV d mi pc' L' st' M r) : EV d mi pc L st M r := EV_stp hm l (pc, L, st, M) (pc', L', st', M) hB hs k
theorem r_ifT {cd : ClassFile.Cond} {off : Int} {x : Int32} {tgt : Nat} (hm : MX mi o ini rt il) (hl : il.lookup pc = some (.ifCond cd off, nx)) (ho : 0 ≤ (pc : Int) + off) (ht : jmp pc off = tgt) (c : cndOf cd x 0 = true) (k : EV d mi tgt L st M r) : EV d mi pc L (.int x :: st) M r :=
  r_if hm hl ho ht (fun _ => k) (fun z => by rw [c] at z; cases z)
theorem r_ifF {cd : ClassFile.Cond} {off : Int} {x : Int32} (hm : MX mi o ini rt il) (hl : il.lookup pc = some (.ifCond cd off, nx)) (ho : 0 ≤ (pc : Int) + off) (c : cndOf cd x 0 = false) (k : EV d mi nx L st M r) : EV d mi pc L (.int x :: st) M r :=
  r_if hm hl ho rfl (fun z => by rw [c] at z; cases z) (fun _ => k)
theorem r_icT {cd : ClassFile.Cond} {off : Int} {x z : Int32} {tgt : Nat} (hm : MX mi o ini rt il) (hl : il.lookup pc = some (.if_icmp cd off, nx)) (ho : 0 ≤ (pc : Int) + off) (ht : jmp pc off = tgt) (c : cndOf cd x z = true) (k : EV d mi tgt L st M r) : EV d mi pc L (.int z :: .int x :: st) M r :=
  r_ic hm hl ho ht (fun _ => k) (fun z => by rw [c] at z; cases z)
theorem r_icF {cd : ClassFile.Cond} {off : Int} {x z : Int32} (hm : MX mi o ini rt il) (hl : il.lookup pc = some (.if_icmp cd off, nx)) (ho : 0 ≤ (pc : Int) + off) (c : cndOf cd x z = false) (k : EV d mi nx L st M r) : EV d mi pc L (.int z :: .int x :: st) M r :=
  r_ic hm hl ho rfl (fun z => by rw [c] at z; cases z) (fun _ => k)
theorem h_eq {x z : Int32} {A B : Option β} {G : Prop} (h : (if x = z then A else B) = some y) (kt : A = some y → cndOf .eq x z = true → G) (kf : B = some y → cndOf .eq x z = false → G) : G := h_ite h (b := cndOf .eq x z) (by simp [cndOf]) kt kf
theorem h_ne {x z : Int32} {A B : Option β} {G : Prop} (h : (if x = z then A else B) = some y) (kt : A = some y → cndOf .ne x z = false → G) (kf : B = some y → cndOf .ne x z = true → G) : G := h_ite h (b := !cndOf .ne x z) (by simp [cndOf]) (fun h c => kt h (by simpa using c)) (fun h c => kf h (by simpa using c))
theorem h_lt {x z : Int32} {A B : Option β} {G : Prop} (h : (if x < z then A else B) = some y) (kt : A = some y → cndOf .lt x z = true → G) (kf : B = some y → cndOf .lt x z = false → G) : G := h_ite h (b := cndOf .lt x z) (by simp [cndOf]) kt kf
theorem h_ge {x z : Int32} {A B : Option β} {G : Prop} (h : (if z ≤ x then A else B) = some y) (kt : A = some y → cndOf .ge x z = true → G) (kf : B = some y → cndOf .ge x z = false → G) : G := h_ite h (b := cndOf .ge x z) (by simp [cndOf]) kt kf
theorem h_gt {x z : Int32} {A B : Option β} {G : Prop} (h : (if z < x then A else B) = some y) (kt : A = some y → cndOf .gt x z = true → G) (kf : B = some y → cndOf .gt x z = false → G) : G := h_ite h (b := cndOf .gt x z) (by simp [cndOf]) kt kf
theorem h_le {x z : Int32} {A B : Option β} {G : Prop} (h : (if x ≤ z then A else B) = some y) (kt : A = some y → cndOf .le x z = true → G) (kf : B = some y → cndOf .le x z = false → G) : G := h_ite h (b := cndOf .le x z) (by simp [cndOf]) kt kf
theorem h_sw {x z : Int32} {A B : Option β} {G : Prop} (h : (if x = z then A else B) = some y) (kt : A = some y → x = z → G) (kf : B = some y → ¬ x = z → G) : G := by
  by_cases hc : x = z
  · rw [if_pos hc] at h; exact kt h hc
  · rw [if_neg hc] at h; exact kf h hc
theorem r_tsI {dflt lo hi off : Int} {offs : Array Int} {x : Int32} {tgt : Nat} (hm : MX mi o ini rt il) (hl : il.lookup pc = some (.tableswitch dflt lo hi offs, nx)) (h1 : ¬ (x.toInt < lo ∨ hi < x.toInt)) (h2 : offs[(x.toInt - lo).toNat]? = some off) (ho : 0 ≤ (pc : Int) + off) (ht : jmp pc off = tgt) (k : EV d mi tgt L st M r) : EV d mi pc L (.int x :: st) M r := by
  subst ht
  refine EV_step hm hl rfl rfl (f := (jmp pc off, L, st, M)) ?_ k
  unfold step1
  dsimp only
  rw [if_neg h1, h2]
  dsimp only
  rw [if_pos ho]
theorem r_tsD {dflt lo hi : Int} {offs : Array Int} {x : Int32} {tgt : Nat} (hm : MX mi o ini rt il) (hl : il.lookup pc = some (.tableswitch dflt lo hi offs, nx)) (h1 : x.toInt < lo ∨ hi < x.toInt) (ho : 0 ≤ (pc : Int) + dflt) (ht : jmp pc dflt = tgt) (k : EV d mi tgt L st M r) : EV d mi pc L (.int x :: st) M r := by
  subst ht
  refine EV_step hm hl rfl rfl (f := (jmp pc dflt, L, st, M)) ?_ k
  unfold step1
  dsimp only
  rw [if_pos h1, if_pos ho]
theorem r_ls {dflt off : Int} {ps : Array (Int × Int)} {x : Int32} {tgt : Nat} (hm : MX mi o ini rt il) (hl : il.lookup pc = some (.lookupswitch dflt ps, nx)) (hp : (ps.toList.zip (ps.toList.drop 1)).all (fun (a, next) => a.1 < next.1) = true) (h1 : Op.lookupswitch.offset ps.toList dflt x.toInt = off) (ho : 0 ≤ (pc : Int) + off) (ht : jmp pc off = tgt) (k : EV d mi tgt L st M r) : EV d mi pc L (.int x :: st) M r := by
  subst ht
  subst h1
  refine EV_step hm hl rfl rfl (f := (jmp pc (Op.lookupswitch.offset ps.toList dflt x.toInt), L, st, M)) ?_ k
  exact if_pos ⟨hp, ho⟩
theorem ro_int {x : Int32} : retOK (some .int) .ireturn [.int x] = some (some (.int x)) := by
  unfold retOK
  exact if_pos (Or.inl rfl)
theorem ro_nar {t : FieldType} {x : Int32} (ht : t = .boolean ∨ t = .char ∨ t = .byte) (h : narrow t (.int x) = .int x) : retOK (some t) .ireturn [.int x] = some (some (.int x)) := by
  rcases ht with rfl | rfl | rfl <;> (unfold retOK; exact if_pos (Or.inr ⟨by simp, h⟩))
theorem rc_34 {mode ti b : Nat} {as : List Value} (hm : mode = 3 ∨ mode = 4) (hK : mK M b = 14) : rcvOK mode ti M (.ref b :: as) = true := by
  rcases hm with rfl | rfl <;> exact decide_eq_true hK
theorem rc_1 {ti b c : Nat} {t : MT} {rr : vw_C} {as : List Value} (ht : mtabL[ti]? = some t) (hr : classes[c - 1]? = some rr) (hn : rr.1 = t.1.cls) (h0 : c ≠ 0) (hK : mK M b = c) : rcvOK 1 ti M (.ref b :: as) = true := by
  show (match mtabL[ti]? with
    | some q => match classes[mK M b - 1]? with
      | some r => decide (r.1 = q.1.cls ∧ mK M b ≠ 0)
      | none => false
    | none => false) = true
  rw [ht]
  dsimp only
  rw [hK, hr]
  exact decide_eq_true ⟨hn, h0⟩
theorem isRv_rfv (x : Option Nat) : isRv (rfv x) = true := by cases x <;> rfl
end ROWS2
def FU : Nat := 200000
end
