/-! METHODS 122 to 149 as functions -/
-- 122: java/util/Arrays.copyOf([II)[I
def f_ar_copyOf1 (p0 : Nat) (p1 : Int32) (M : Mem) : Option (Option Nat × Mem) :=
  aN M p0 fun v1 => if p1 = v1 then none else nA M 100 p1 fun a2 M3 => aN M3 p0 fun v4 => cI (f_ma_min v4 p1 M3) fun v6 M5 => cpA M5 p0 (0 : Int32) a2 (0 : Int32) v6 fun M7 => some (some a2, M7)
-- 123: PipelineSimulator$Latencies.note(I)V
def f_la_note_44 (l0 : Nat) (l1 : Int32) (l2 : Int32) (M : Mem) : Option (Mem) :=
  gA 5 0 M l0 fun a1 => aI M a1 l2 fun v2 => sI M a1 l2 (v2 + (1 : Int32)) fun M3 => gI 5 1 M3 l0 fun v4 => pI 5 1 M3 l0 (v4 + (1 : Int32)) fun M5 => gI 5 2 M5 l0 fun v6 => pI 5 2 M5 l0 (v6 + l1) fun M7 => some M7
def f_la_note (p0 : Nat) (p1 : Int32) (M : Mem) : Option (Mem) :=
  cI (f_ma_min p1 (131071 : Int32) M) fun v2 M1 => cI (f_ma_max (0 : Int32) v2 M1) fun v4 M3 => gA 5 0 M3 p0 fun a5 => aN M3 a5 fun v6 => if v4 < v6 then (f_la_note_44 p0 p1 v4 M3) else gA 5 0 M3 p0 fun a7 => gA 5 0 M3 p0 fun a8 => aN M3 a8 fun v9 => cI (f_ma_max (v4 + (1 : Int32)) ((2 : Int32) * v9) M3) fun v11 M10 => cR (f_ar_copyOf1 a7 v11 M10) fun o13 M12 => onR o13 none (fun a14 => pR 5 0 M12 p0 a14 fun M16 => f_la_note_44 p0 p1 v4 M16)
-- 124: PipelineSimulator$Operator.passes(I)Z
def f_op_passes (p0 : Nat) (p1 : Int32) (M : Mem) : Option (Int32 × Mem) :=
  gI 6 7 M p0 fun v1 => if v1 = (0 : Int32) then (gI 6 8 M p0 fun v5 => if v5 ≤ p1 then (some ((0 : Int32), M)) else some ((1 : Int32), M)) else gI 6 7 M p0 fun v2 => if v2 = (1 : Int32) then (gI 6 8 M p0 fun v4 => if p1 = v4 then (some ((1 : Int32), M)) else some ((0 : Int32), M)) else gI 6 8 M p0 fun v3 => if p1 ≤ v3 then (some ((0 : Int32), M)) else some ((1 : Int32), M)
-- 125: PipelineSimulator$Keyed.firstOf(I)I
def f_ky_firstOf (p0 : Nat) (p1 : Int32) (M : Mem) : Option (Int32 × Mem) :=
  gA 4 0 M p0 fun a1 => aI M a1 (p1 &&& (15 : Int32)) fun v2 => some (v2, M)
-- 126: PipelineSimulator$Keyed.secondOf(I)I
def f_ky_secondOf (p0 : Nat) (p1 : Int32) (M : Mem) : Option (Int32 × Mem) :=
  gA 4 1 M p0 fun a1 => aI M a1 (p1 &&& (15 : Int32)) fun v2 => some (v2, M)
-- 127: PipelineSimulator$Keyed.remove(I)V
def f_ky_remove (p0 : Nat) (p1 : Int32) (M : Mem) : Option (Mem) :=
  gA 4 0 M p0 fun a1 => sI M a1 (p1 &&& (15 : Int32)) (0 : Int32) fun M2 => gA 4 1 M2 p0 fun a3 => sI M2 a3 (p1 &&& (15 : Int32)) (0 : Int32) fun M4 => gI 4 2 M4 p0 fun v5 => pI 4 2 M4 p0 (v5 &&& (((1 : Int32) <<< ((p1 &&& (15 : Int32)) &&& 31)) ^^^ (-1 : Int32))) fun M6 => some M6
-- 128: PipelineSimulator$Keyed.put(III)V
def f_ky_put (p0 : Nat) (p1 : Int32) (p2 : Int32) (p3 : Int32) (M : Mem) : Option (Mem) :=
  gA 4 0 M p0 fun a1 => sI M a1 (p1 &&& (15 : Int32)) p2 fun M2 => gA 4 1 M2 p0 fun a3 => sI M2 a3 (p1 &&& (15 : Int32)) p3 fun M4 => gI 4 2 M4 p0 fun v5 => pI 4 2 M4 p0 (v5 ||| ((1 : Int32) <<< ((p1 &&& (15 : Int32)) &&& 31))) fun M6 => some M6
-- 129: PipelineSimulator$Operator.addToSum(LPipelineSimulator$Keyed;IIILPipelineSimulator$Records;)V
def f_op_addToSum (p0 : Nat) (p1 : Nat) (p2 : Int32) (p3 : Int32) (p4 : Int32) (p5 : Nat) (M : Mem) : Option (Mem) :=
  ck M p1 4 <| cI (f_ky_firstOf p1 p2 M) fun v2 M1 => ck M1 p1 4 <| cI (f_ky_secondOf p1 p2 M1) fun v4 M3 => gI 6 7 M3 p0 fun v5 => if (v4 + (1 : Int32)) = v5 then (ck M3 p5 9 <| cV (f_rc_add p5 p2 (v2 + p3) p4 M3) fun M7 => ck M7 p1 4 <| cV (f_ky_remove p1 p2 M7) fun M8 => some M8) else ck M3 p1 4 <| cV (f_ky_put p1 p2 (v2 + p3) (v4 + (1 : Int32)) M3) fun M6 => some M6
-- 130: PipelineSimulator$Keyed.has(I)Z
def f_ky_has (p0 : Nat) (p1 : Int32) (M : Mem) : Option (Int32 × Mem) :=
  gI 4 2 M p0 fun v1 => if ((v1 >>> ((p1 &&& (15 : Int32)) &&& 31)) &&& (1 : Int32)) = (0 : Int32) then (some ((0 : Int32), M)) else some ((1 : Int32), M)
-- 131: PipelineSimulator$Operator.handle(LPipelineSimulator$Keyed;IIILPipelineSimulator$Records;)V
def f_op_handle_128 : Nat → Nat → Int32 → Int32 → Int32 → Nat → Int32 → Mem → Option (Mem)
  | 0, _, _, _, _, _, _, _ => none
  | n + 1, l0, l2, l3, l4, l5, l6, M => gI 6 7 M l0 fun v1 => if v1 ≤ l6 then (some M) else ck M l5 9 <| cV (f_rc_add l5 l2 (l3 + l6) l4 M) fun M2 => f_op_handle_128 n l0 l2 l3 l4 l5 (l6 + (1 : Int32)) M2
def f_op_handle_198 (l1 : Nat) (l2 : Int32) (l3 : Int32) (M : Mem) : Option (Mem) :=
  ck M l1 4 <| cV (f_ky_put l1 l2 l3 (0 : Int32) M) fun M1 => some M1
def f_op_handle_189 (l1 : Nat) (l2 : Int32) (l3 : Int32) (l4 : Int32) (l5 : Nat) (M : Mem) : Option (Mem) :=
  ck M l5 9 <| cV (f_rc_add l5 l2 l3 l4 M) fun M1 => f_op_handle_198 l1 l2 l3 M1
def f_op_handle_225 (l1 : Nat) (l2 : Int32) (l3 : Int32) (l4 : Int32) (l5 : Nat) (M : Mem) : Option (Mem) :=
  ck M l5 9 <| cV (f_rc_add l5 l2 l3 l4 M) fun M1 => ck M1 l1 4 <| cV (f_ky_put l1 l2 l3 (0 : Int32) M1) fun M2 => some M2
def f_op_handle (p0 : Nat) (p1 : Nat) (p2 : Int32) (p3 : Int32) (p4 : Int32) (p5 : Nat) (M : Mem) : Option (Mem) :=
  gI 6 6 M p0 fun v1 => if v1 = (0 : Int32) then (gI 6 7 M p0 fun v2 => gI 6 8 M p0 fun v3 => ck M p5 9 <| cV (f_rc_add p5 p2 ((p3 * v2) + v3) p4 M) fun M4 => some M4) else if v1 = (1 : Int32) then (ck M p0 6 <| cI (f_op_passes p0 p3 M) fun v6 M5 => if v6 = (0 : Int32) then (some M5) else ck M5 p5 9 <| cV (f_rc_add p5 p2 p3 p4 M5) fun M7 => some M7) else if v1 = (2 : Int32) then (gI 6 7 M p0 fun v8 => gI 6 8 M p0 fun v9 => cI (f_ma_floorMod ((p2 * v8) + v9) (16 : Int32) M) fun v11 M10 => ck M10 p5 9 <| cV (f_rc_add p5 v11 p3 p4 M10) fun M12 => some M12) else if v1 = (3 : Int32) then (f_op_handle_128 FU p0 p2 p3 p4 p5 (0 : Int32) M) else if v1 = (4 : Int32) then (ck M p0 6 <| cV (f_op_addToSum p0 p1 p2 p3 p4 p5 M) fun M13 => some M13) else if v1 = (5 : Int32) then (ck M p1 4 <| cI (f_ky_has p1 p2 M) fun v15 M14 => if v15 = (0 : Int32) then (f_op_handle_189 p1 p2 p3 p4 p5 M14) else ck M14 p1 4 <| cI (f_ky_firstOf p1 p2 M14) fun v17 M16 => if v17 = p3 then (f_op_handle_198 p1 p2 p3 M16) else f_op_handle_189 p1 p2 p3 p4 p5 M16) else if v1 = (6 : Int32) then (ck M p1 4 <| cI (f_ky_has p1 p2 M) fun v19 M18 => if v19 = (0 : Int32) then (f_op_handle_225 p1 p2 p3 p4 p5 M18) else ck M18 p1 4 <| cI (f_ky_firstOf p1 p2 M18) fun v21 M20 => if p3 ≤ v21 then (some M20) else f_op_handle_225 p1 p2 p3 p4 p5 M20) else if v1 = (7 : Int32) then (some M) else if v1 = (8 : Int32) then (ck M p1 4 <| cI (f_ky_firstOf p1 p2 M) fun v23 M22 => ck M22 p1 4 <| cI (f_ky_secondOf p1 p2 M22) fun v25 M24 => ck M24 p1 4 <| cV (f_ky_put p1 p2 (v23 + p3) (v25 + (1 : Int32)) M24) fun M26 => some M26) else some M
-- 132: PipelineSimulator$Simulation.takeItem(IILPipelineSimulator$Operator;LPipelineSimulator$Instance;)Z
def f_sm_takeItem_175 (l3 : Nat) (l4 : Nat) (l8 : Int32) (l9 : Int32) (l10 : Int32) (M : Mem) : Option (Int32 × Mem) :=
  gA 6 1 M l3 fun a1 => gA 3 0 M l4 fun a2 => ck M l3 6 <| cV (f_op_handle l3 a1 l8 l9 l10 a2 M) fun M3 => gI 6 11 M3 l3 fun v4 => gA 3 0 M3 l4 fun a5 => gI 9 5 M3 a5 fun v6 => pI 6 11 M3 l3 (v4 + v6) fun M7 => some ((1 : Int32), M7)
def f_sm_takeItem (p0 : Nat) (p1 : Int32) (p2 : Int32) (p3 : Nat) (p4 : Nat) (M : Mem) : Option (Int32 × Mem) :=
  ck M p0 11 <| cI (f_sm_sizeOf p0 (p1 - (1 : Int32)) M) fun v2 M1 => ck M1 p0 11 <| cI (f_sm_inputToTake p0 p1 p2 M1) fun v4 M3 => ck M3 p0 11 <| cR (f_sm_channelAt p0 (p1 - (1 : Int32)) v4 p2 M3) fun o6 M5 => onR o6 (some ((0 : Int32), M5)) (fun a7 => if (0 : Int32) < v2 then (rmI (v4 + (1 : Int32)) v2 fun v8 => pI 3 3 M5 p4 v8 fun M9 => ck M9 a7 1 <| cI (f_ch_startsWithBarrier a7 M9) fun v11 M10 => if v11 = (0 : Int32) then (gA 1 1 M10 a7 fun a12 => ck M10 a12 9 <| cI (f_rc_keyAt a12 (0 : Int32) M10) fun v14 M13 => gA 1 1 M13 a7 fun a15 => ck M13 a15 9 <| cI (f_rc_valueAt a15 (0 : Int32) M13) fun v17 M16 => gA 1 1 M16 a7 fun a18 => ck M16 a18 9 <| cI (f_rc_birthAt a18 (0 : Int32) M16) fun v20 M19 => ck M19 a7 1 <| cV (f_ch_removeItem a7 M19) fun M21 => gI 6 10 M21 p3 fun v22 => pI 6 10 M21 p3 (v22 + (1 : Int32)) fun M23 => gI 6 6 M23 p3 fun v24 => if v24 = (8 : Int32) then (gA 11 4 M23 p0 fun a25 => gI 11 9 M23 p0 fun v26 => ck M23 a25 5 <| cV (f_la_note a25 (v26 - v20) M23) fun M27 => f_sm_takeItem_175 p3 p4 v14 v17 v20 M27) else f_sm_takeItem_175 p3 p4 v14 v17 v20 M23) else ck M10 a7 1 <| cV (f_ch_removeItem a7 M10) fun M28 => gI 3 2 M28 p4 fun v29 => pI 3 2 M28 p4 (v29 ||| ((1 : Int32) <<< (v4 &&& 31))) fun M30 => gI 3 2 M30 p4 fun v31 => if v31 = (((1 : Int32) <<< (v2 &&& 31)) - (1 : Int32)) then (ck M30 p0 11 <| cV (f_sm_saveInstance p0 p2 p3 p4 M30) fun M32 => some ((1 : Int32), M32)) else some ((1 : Int32), M30)) else some ((0 : Int32), M5))
-- 133: PipelineSimulator$Simulation.work(II)V
def f_sm_work_100 (k33 : Nat → Int32 → Int32 → Nat → Nat → Int32 → Mem → Option (Mem)) (l0 : Nat) (l1 : Int32) (l2 : Int32) (l3 : Nat) (l4 : Nat) (l5 : Int32) (s0 : Int32) (M : Mem) : Option (Mem) :=
  if s0 = (0 : Int32) then (gI 6 13 M l3 fun v1 => pI 6 13 M l3 (v1 + (1 : Int32)) fun M2 => some M2) else k33 l0 l1 l2 l3 l4 (l5 + (-1 : Int32)) M
def f_sm_work_60 (l3 : Nat) (M : Mem) : Option (Mem) :=
  gI 6 12 M l3 fun v1 => pI 6 12 M l3 (v1 + (1 : Int32)) fun M2 => some M2
def f_sm_work_33 : Nat → Nat → Int32 → Int32 → Nat → Nat → Int32 → Mem → Option (Mem)
  | 0, _, _, _, _, _, _, _ => none
  | n + 1, l0, l1, l2, l3, l4, l5, M => if l5 < (0 : Int32) then (some M) else ck M l0 11 <| cI (f_sm_sendList l0 l1 l2 l4 M) fun v2 M1 => if v2 = (0 : Int32) then (f_sm_work_60 l3 M1) else ck M1 l0 11 <| cI (f_sm_sendBarrier l0 l1 l2 l4 M1) fun v4 M3 => if v4 = (0 : Int32) then (f_sm_work_60 l3 M3) else if l5 = (0 : Int32) then (some M3) else if l1 = (0 : Int32) then (ck M3 l0 11 <| cI (f_sm_takeInput l0 l3 l4 M3) fun v8 M7 => f_sm_work_100 (f_sm_work_33 n) l0 l1 l2 l3 l4 l5 v8 M7) else ck M3 l0 11 <| cI (f_sm_takeItem l0 l1 l2 l3 l4 M3) fun v6 M5 => f_sm_work_100 (f_sm_work_33 n) l0 l1 l2 l3 l4 l5 v6 M5
def f_sm_work (p0 : Nat) (p1 : Int32) (p2 : Int32) (M : Mem) : Option (Mem) :=
  ck M p0 11 <| cR (f_sm_operatorAt p0 p1 M) fun o2 M1 => onR o2 (ck M1 p0 11 <| cR (f_sm_instanceAt p0 p1 p2 M1) fun o5 M4 => onR o5 (some M4) (fun a6 => some M4)) (fun a3 => ck M1 p0 11 <| cR (f_sm_instanceAt p0 p1 p2 M1) fun o8 M7 => onR o8 (some M7) (fun a9 => gA 11 0 M7 p0 fun a10 => gI 10 3 M7 a10 fun v11 => f_sm_work_33 FU p0 p1 p2 a3 a9 v11 M7))
-- 134: PipelineSimulator$Operator.completePending()V
def f_op_completePending_49 (k13 : Nat → Int32 → Mem → Option (Mem)) (l0 : Nat) (l1 : Int32) (M : Mem) : Option (Mem) :=
  k13 l0 (l1 + (1 : Int32)) M
def f_op_completePending_13 : Nat → Nat → Int32 → Mem → Option (Mem)
  | 0, _, _, _ => none
  | n + 1, l0, l1, M => gI 6 9 M l0 fun v1 => if v1 ≤ l1 then (some M) else gA 6 0 M l0 fun a2 => aN M a2 fun v3 => if v3 ≤ l1 then (some M) else gA 6 0 M l0 fun a4 => aA M a4 l1 fun a5 => gI 3 5 M a5 fun v6 => pI 3 6 M a5 v6 fun M7 => f_op_completePending_49 (f_op_completePending_13 n) l0 l1 M7
def f_op_completePending (p0 : Nat) (M : Mem) : Option (Mem) :=
  gA 6 3 M p0 fun a1 => gA 6 2 M p0 fun a2 => ck M a1 4 <| cV (f_ky_copyAll a1 a2 M) fun M3 => f_op_completePending_13 FU p0 (0 : Int32) M3
-- 135: PipelineSimulator$Simulation.completeCheckpoint()V
def f_sm_completeCheckpoint_47 (k23 : Nat → Int32 → Mem → Option (Mem)) (l0 : Nat) (l1 : Int32) (M : Mem) : Option (Mem) :=
  k23 l0 (l1 + (1 : Int32)) M
def f_sm_completeCheckpoint_23 : Nat → Nat → Int32 → Mem → Option (Mem)
  | 0, _, _, _ => none
  | n + 1, l0, l1, M => gI 11 5 M l0 fun v1 => if (v1 + (1 : Int32)) < l1 then (some M) else ck M l0 11 <| cR (f_sm_operatorAt l0 l1 M) fun o3 M2 => onR o3 (f_sm_completeCheckpoint_47 (f_sm_completeCheckpoint_23 n) l0 l1 M2) (fun a4 => ck M2 a4 6 <| cV (f_op_completePending a4 M2) fun M5 => f_sm_completeCheckpoint_47 (f_sm_completeCheckpoint_23 n) l0 l1 M5)
def f_sm_completeCheckpoint (p0 : Nat) (M : Mem) : Option (Mem) :=
  gI 11 12 M p0 fun v1 => pI 11 11 M p0 v1 fun M2 => pI 11 12 M2 p0 (0 : Int32) fun M3 => gI 11 7 M3 p0 fun v4 => pI 11 8 M3 p0 v4 fun M5 => f_sm_completeCheckpoint_23 FU p0 (0 : Int32) M5
-- 136: PipelineSimulator$Simulation.performTick()V
def f_sm_performTick_35 (k15 : Nat → Nat → Int32 → Int32 → Mem → Option (Mem)) (l0 : Nat) (l1 : Nat) (l2 : Int32) (l3 : Int32) (M : Mem) : Option (Mem) :=
  k15 l0 l1 l2 (l3 + (1 : Int32)) M
def f_sm_performTick_54 (k48 : Nat → Int32 → Mem → Option (Mem)) : Nat → Nat → Int32 → Int32 → Mem → Option (Mem)
  | 0, _, _, _, _ => none
  | n + 1, l0, l1, l2, M => ck M l0 11 <| cI (f_sm_sizeOf l0 l1 M) fun v2 M1 => if v2 ≤ l2 then (k48 l0 (l1 + (-1 : Int32)) M1) else ck M1 l0 11 <| cV (f_sm_work l0 l1 l2 M1) fun M3 => f_sm_performTick_54 k48 n l0 l1 (l2 + (1 : Int32)) M3
def f_sm_performTick_99 (l0 : Nat) (M : Mem) : Option (Mem) :=
  gI 11 9 M l0 fun v1 => pI 11 9 M l0 (v1 + (1 : Int32)) fun M2 => some M2
def f_sm_performTick_48 : Nat → Nat → Int32 → Mem → Option (Mem)
  | 0, _, _, _ => none
  | n + 1, l0, l1, M => if l1 < (0 : Int32) then (gI 11 12 M l0 fun v1 => if v1 = (0 : Int32) then (f_sm_performTick_99 l0 M) else gI 11 13 M l0 fun v2 => if v2 = (0 : Int32) then (ck M l0 11 <| cV (f_sm_completeCheckpoint l0 M) fun M3 => f_sm_performTick_99 l0 M3) else f_sm_performTick_99 l0 M) else f_sm_performTick_54 (f_sm_performTick_48 n) FU l0 l1 (0 : Int32) M
def f_sm_performTick_15 : Nat → Nat → Nat → Int32 → Int32 → Mem → Option (Mem)
  | 0, _, _, _, _, _ => none
  | n + 1, l0, l1, l2, l3, M => if l2 ≤ l3 then (gI 11 5 M l0 fun v1 => f_sm_performTick_48 FU l0 (v1 + (1 : Int32)) M) else aA M l1 l3 fun a2 => ck M a2 1 <| cV (f_ch_growOlder a2 M) fun M3 => f_sm_performTick_35 (f_sm_performTick_15 n) l0 l1 l2 l3 M3
def f_sm_performTick (p0 : Nat) (M : Mem) : Option (Mem) :=
  pZ 11 14 M p0 (1 : Int32) fun M1 => gA 11 3 M1 p0 fun a2 => aN M1 a2 fun v3 => f_sm_performTick_15 FU p0 a2 v3 (0 : Int32) M1
-- 137: PipelineSimulator.tick(I)I
def f_x_tick_17 : Nat → Nat → Int32 → Int32 → Mem → Option (Int32 × Mem)
  | 0, _, _, _, _ => none
  | n + 1, l0, l1, l2, M => if l1 ≤ l2 then (some (l1, M)) else gA 12 3 M l0 fun a1 => ck M a1 11 <| cI (f_sm_quiet a1 M) fun v3 M2 => if v3 = (0 : Int32) then (gA 12 3 M2 l0 fun a4 => ck M2 a4 11 <| cV (f_sm_performTick a4 M2) fun M5 => f_x_tick_17 n l0 l1 (l2 + (1 : Int32)) M5) else some (l2, M2)
def f_x_tick (p0 : Nat) (p1 : Int32) (M : Mem) : Option (Int32 × Mem) :=
  if p1 < (1 : Int32) then (some ((-1000000002 : Int32), M)) else if p1 ≤ (200 : Int32) then (f_x_tick_17 FU p0 p1 (0 : Int32) M) else some ((-1000000002 : Int32), M)
-- 138: PipelineSimulatorModel.quiet()Z
def f_m_quiet_47 : Nat → Nat → Int32 → Mem → Option (Int32 × Mem)
  | 0, _, _, _ => none
  | n + 1, l0, l1, M => if (54 : Int32) ≤ l1 then (some ((1 : Int32), M)) else gA 13 46 M l0 fun a1 => aI M a1 l1 fun v2 => if (0 : Int32) < v2 then (some ((0 : Int32), M)) else gA 13 51 M l0 fun a3 => aI M a3 l1 fun v4 => if v4 ≤ (0 : Int32) then (f_m_quiet_47 n l0 (l1 + (1 : Int32)) M) else some ((0 : Int32), M)
def f_m_quiet_22 : Nat → Nat → Int32 → Mem → Option (Int32 × Mem)
  | 0, _, _, _ => none
  | n + 1, l0, l1, M => if (18 : Int32) ≤ l1 then (f_m_quiet_47 FU l0 (0 : Int32) M) else gA 13 39 M l0 fun a1 => aI M a1 l1 fun v2 => if v2 ≤ (0 : Int32) then (f_m_quiet_22 n l0 (l1 + (1 : Int32)) M) else some ((0 : Int32), M)
def f_m_quiet (p0 : Nat) (M : Mem) : Option (Int32 × Mem) :=
  gI 13 14 M p0 fun v1 => gI 13 13 M p0 fun v2 => if v1 < v2 then (some ((0 : Int32), M)) else gI 13 17 M p0 fun v3 => if v3 ≤ (0 : Int32) then (f_m_quiet_22 FU p0 (0 : Int32) M) else some ((0 : Int32), M)
-- 139: PipelineSimulatorModel.closes(I)V
def f_m_closes_25 : Nat → Nat → Int32 → Int32 → Int32 → Mem → Option (Mem)
  | 0, _, _, _, _, _ => none
  | n + 1, l0, l1, l2, l3, M => gA 13 46 M l0 fun a1 => aI M a1 l1 fun v2 => if v2 ≤ l3 then (gA 13 51 M l0 fun a3 => aI M a3 l1 fun v4 => sI M a3 l1 (v4 + (1 : Int32)) fun M5 => gA 13 46 M5 l0 fun a6 => sI M5 a6 l1 (0 : Int32) fun M7 => gA 13 47 M7 l0 fun a8 => sI M7 a8 l1 (0 : Int32) fun M9 => some M9) else gA 13 54 M l0 fun a10 => gA 13 48 M l0 fun a11 => aI M a11 (((4 : Int32) * l1) + l3) fun v12 => sI M a10 (((4 : Int32) * l2) + l3) v12 fun M13 => gA 13 55 M13 l0 fun a14 => gA 13 49 M13 l0 fun a15 => aI M13 a15 (((4 : Int32) * l1) + l3) fun v16 => sI M13 a14 (((4 : Int32) * l2) + l3) v16 fun M17 => gA 13 56 M17 l0 fun a18 => gA 13 50 M17 l0 fun a19 => aI M17 a19 (((4 : Int32) * l1) + l3) fun v20 => sI M17 a18 (((4 : Int32) * l2) + l3) v20 fun M21 => f_m_closes_25 n l0 l1 l2 (l3 + (1 : Int32)) M21
def f_m_closes (p0 : Nat) (p1 : Int32) (M : Mem) : Option (Mem) :=
  gA 13 51 M p0 fun a1 => aI M a1 p1 fun v2 => gA 13 53 M p0 fun a3 => gA 13 46 M p0 fun a4 => aI M a4 p1 fun v5 => sI M a3 (((4 : Int32) * p1) + v2) v5 fun M6 => f_m_closes_25 FU p0 p1 (((4 : Int32) * p1) + v2) (0 : Int32) M6
-- 140: PipelineSimulatorModel.sink()I
def f_m_sink (p0 : Nat) (M : Mem) : Option (Int32 × Mem) :=
  gI 13 2 M p0 fun v1 => some ((v1 + (1 : Int32)), M)
-- 141: PipelineSimulatorModel.spot(II)I
def f_m_spot (p0 : Int32) (p1 : Int32) (M : Mem) : Option (Int32 × Mem) :=
  some ((((3 : Int32) * p0) + p1), M)
-- 142: PipelineSimulatorModel.isKeyed(I)Z
def f_m_isKeyed (p0 : Nat) (p1 : Int32) (M : Mem) : Option (Int32 × Mem) :=
  gA 13 3 M p0 fun a1 => aI M a1 p1 fun v2 => if v2 = (4 : Int32) then (some ((1 : Int32), M)) else gA 13 3 M p0 fun a3 => aI M a3 p1 fun v4 => if v4 = (5 : Int32) then (some ((1 : Int32), M)) else gA 13 3 M p0 fun a5 => aI M a5 p1 fun v6 => if v6 = (6 : Int32) then (some ((1 : Int32), M)) else gA 13 3 M p0 fun a7 => aI M a7 p1 fun v8 => if v8 = (8 : Int32) then (some ((1 : Int32), M)) else some ((0 : Int32), M)
-- 143: PipelineSimulatorModel.home(II)I
def f_m_home (p0 : Nat) (p1 : Int32) (p2 : Int32) (M : Mem) : Option (Int32 × Mem) :=
  rmI p2 (8 : Int32) fun v1 => gA 13 6 M p0 fun a2 => aI M a2 p1 fun v3 => dvI (v1 * v3) (8 : Int32) fun v4 => some (v4, M)
-- 144: PipelineSimulatorModel.goal(III)I
def f_m_goal (p0 : Nat) (p1 : Int32) (p2 : Int32) (p3 : Int32) (M : Mem) : Option (Int32 × Mem) :=
  ck M p0 13 <| cI (f_m_isKeyed p0 (p1 + (1 : Int32)) M) fun v2 M1 => if v2 = (0 : Int32) then (gA 13 33 M1 p0 fun a3 => cI (f_m_spot p1 p2 M1) fun v5 M4 => aI M4 a3 v5 fun v6 => gA 13 6 M4 p0 fun a7 => aI M4 a7 (p1 + (1 : Int32)) fun v8 => rmI v6 v8 fun v9 => some (v9, M4)) else ck M1 p0 13 <| cI (f_m_home p0 (p1 + (1 : Int32)) p3 M1) fun v11 M10 => some (v11, M10)
-- 145: PipelineSimulatorModel.line(III)I
def f_m_line (p0 : Int32) (p1 : Int32) (p2 : Int32) (M : Mem) : Option (Int32 × Mem) :=
  some ((((3 : Int32) * (((3 : Int32) * p0) + p1)) + p2), M)
-- 146: PipelineSimulatorModel.takesRecord(I)Z
def f_m_takesRecord (p0 : Nat) (p1 : Int32) (M : Mem) : Option (Int32 × Mem) :=
  gA 13 46 M p0 fun a1 => aI M a1 p1 fun v2 => gI 13 7 M p0 fun v3 => if v2 < v3 then (some ((1 : Int32), M)) else gA 13 51 M p0 fun a4 => aI M a4 p1 fun v5 => gI 13 9 M p0 fun v6 => if v6 ≤ v5 then (some ((0 : Int32), M)) else some ((1 : Int32), M)
-- 147: PipelineSimulatorModel.puts(IIII)V
def f_m_puts_18 (l0 : Nat) (l1 : Int32) (l2 : Int32) (l3 : Int32) (l4 : Int32) (M : Mem) : Option (Mem) :=
  gA 13 48 M l0 fun a1 => gA 13 46 M l0 fun a2 => aI M a2 l1 fun v3 => sI M a1 (((4 : Int32) * l1) + v3) l2 fun M4 => gA 13 49 M4 l0 fun a5 => gA 13 46 M4 l0 fun a6 => aI M4 a6 l1 fun v7 => sI M4 a5 (((4 : Int32) * l1) + v7) l3 fun M8 => gA 13 50 M8 l0 fun a9 => gA 13 46 M8 l0 fun a10 => aI M8 a10 l1 fun v11 => sI M8 a9 (((4 : Int32) * l1) + v11) l4 fun M12 => gA 13 46 M12 l0 fun a13 => aI M12 a13 l1 fun v14 => sI M12 a13 l1 (v14 + (1 : Int32)) fun M15 => gA 13 46 M15 l0 fun a16 => aI M15 a16 l1 fun v17 => gI 13 7 M15 l0 fun v18 => if v17 = v18 then (gA 13 51 M15 l0 fun a19 => aI M15 a19 l1 fun v20 => gI 13 9 M15 l0 fun v21 => if v21 ≤ v20 then (some M15) else ck M15 l0 13 <| cV (f_m_closes l0 l1 M15) fun M22 => some M22) else some M15
def f_m_puts (p0 : Nat) (p1 : Int32) (p2 : Int32) (p3 : Int32) (p4 : Int32) (M : Mem) : Option (Mem) :=
  gA 13 46 M p0 fun a1 => aI M a1 p1 fun v2 => gI 13 7 M p0 fun v3 => if v2 = v3 then (ck M p0 13 <| cV (f_m_closes p0 p1 M) fun M4 => f_m_puts_18 p0 p1 p2 p3 p4 M4) else f_m_puts_18 p0 p1 p2 p3 p4 M
-- 148: PipelineSimulatorModel.takesBarrier(I)Z
def f_m_takesBarrier_20 (l0 : Nat) (s0 : Int32) (s1 : Int32) (M : Mem) : Option (Int32 × Mem) :=
  gI 13 9 M l0 fun v1 => if v1 ≤ (s1 + s0) then (some ((0 : Int32), M)) else some ((1 : Int32), M)
def f_m_takesBarrier (p0 : Nat) (p1 : Int32) (M : Mem) : Option (Int32 × Mem) :=
  gA 13 51 M p0 fun a1 => aI M a1 p1 fun v2 => gA 13 46 M p0 fun a3 => aI M a3 p1 fun v4 => if v4 ≤ (0 : Int32) then (f_m_takesBarrier_20 p0 (0 : Int32) v2 M) else f_m_takesBarrier_20 p0 (1 : Int32) v2 M
-- 149: PipelineSimulatorModel.refusing(II)I
def f_m_refusing_2 : Nat → Nat → Int32 → Int32 → Int32 → Mem → Option (Int32 × Mem)
  | 0, _, _, _, _, _ => none
  | n + 1, l0, l1, l2, l3, M => gA 13 6 M l0 fun a1 => aI M a1 (l1 + (1 : Int32)) fun v2 => if v2 ≤ l3 then (some ((-1 : Int32), M)) else cI (f_m_line l1 l2 l3 M) fun v4 M3 => ck M3 l0 13 <| cI (f_m_takesBarrier l0 v4 M3) fun v6 M5 => if v6 = (0 : Int32) then (some (l3, M5)) else f_m_refusing_2 n l0 l1 l2 (l3 + (1 : Int32)) M5
def f_m_refusing (p0 : Nat) (p1 : Int32) (p2 : Int32) (M : Mem) : Option (Int32 × Mem) :=
  f_m_refusing_2 FU p0 p1 p2 (0 : Int32) M
