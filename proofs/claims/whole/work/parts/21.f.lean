/-! METHODS 60 to 121 as functions -/
-- 60: PipelineSimulator$Operator.resetCounters()V
def f_op_resetCounters_30 (k10 : Nat → Int32 → Int32 → Mem → Option (Mem)) (l1 : Nat) (l2 : Int32) (l3 : Int32) (M : Mem) : Option (Mem) :=
  k10 l1 l2 (l3 + (1 : Int32)) M
def f_op_resetCounters_10 : Nat → Nat → Int32 → Int32 → Mem → Option (Mem)
  | 0, _, _, _, _ => none
  | n + 1, l1, l2, l3, M => if l2 ≤ l3 then (some M) else aA M l1 l3 fun a1 => ck M a1 3 <| cV (f_is_resetCounters a1 M) fun M2 => f_op_resetCounters_30 (f_op_resetCounters_10 n) l1 l2 l3 M2
def f_op_resetCounters (p0 : Nat) (M : Mem) : Option (Mem) :=
  gA 6 0 M p0 fun a1 => aN M a1 fun v2 => f_op_resetCounters_10 FU a1 v2 (0 : Int32) M
-- 61: PipelineSimulator$Operator.forgetAll()V
def f_op_forgetAll (p0 : Nat) (M : Mem) : Option (Mem) :=
  gA 6 3 M p0 fun a1 => ck M a1 4 <| cV (f_ky_wipe a1 M) fun M2 => pI 6 10 M2 p0 (0 : Int32) fun M3 => pI 6 11 M3 p0 (0 : Int32) fun M4 => pI 6 12 M4 p0 (0 : Int32) fun M5 => pI 6 13 M5 p0 (0 : Int32) fun M6 => ck M6 p0 6 <| cV (f_op_resetCounters p0 M6) fun M7 => some M7
-- 62: PipelineSimulator$Latencies.wipe()V
def f_la_wipe (p0 : Nat) (M : Mem) : Option (Mem) :=
  gA 5 0 M p0 fun a1 => cV (f_ar_fill a1 (0 : Int32) M) fun M2 => pI 5 1 M2 p0 (0 : Int32) fun M3 => pI 5 2 M3 p0 (0 : Int32) fun M4 => some M4
-- 63: PipelineSimulator$Records.wipe()V
def f_rc_wipe (p0 : Nat) (M : Mem) : Option (Mem) :=
  pI 9 4 M p0 (0 : Int32) fun M1 => pI 9 5 M1 p0 (0 : Int32) fun M2 => some M2
-- 64: PipelineSimulator$Channel.wipe()V
def f_ch_wipe (p0 : Nat) (M : Mem) : Option (Mem) :=
  gA 1 1 M p0 fun a1 => ck M a1 9 <| cV (f_rc_wipe a1 M) fun M2 => pI 1 3 M2 p0 (0 : Int32) fun M3 => pI 1 4 M3 p0 (0 : Int32) fun M4 => pI 1 5 M4 p0 (0 : Int32) fun M5 => pI 1 6 M5 p0 (0 : Int32) fun M6 => some M6
-- 65: PipelineSimulator$Keyed.copyAll(LPipelineSimulator$Keyed;)V
def f_ky_copyAll (p0 : Nat) (p1 : Nat) (M : Mem) : Option (Mem) :=
  gA 4 0 M p1 fun a1 => gA 4 0 M p0 fun a2 => cpA M a1 (0 : Int32) a2 (0 : Int32) (16 : Int32) fun M3 => gA 4 1 M3 p1 fun a4 => gA 4 1 M3 p0 fun a5 => cpA M3 a4 (0 : Int32) a5 (0 : Int32) (16 : Int32) fun M6 => gI 4 2 M6 p1 fun v7 => pI 4 2 M6 p0 v7 fun M8 => some M8
-- 66: PipelineSimulator$Instance.returnToSaved()V
def f_is_returnToSaved (p0 : Nat) (M : Mem) : Option (Mem) :=
  gA 3 0 M p0 fun a1 => ck M a1 9 <| cV (f_rc_wipe a1 M) fun M2 => pZ 3 1 M2 p0 (0 : Int32) fun M3 => pI 3 2 M3 p0 (0 : Int32) fun M4 => pI 3 3 M4 p0 (0 : Int32) fun M5 => gI 3 6 M5 p0 fun v6 => pI 3 4 M5 p0 v6 fun M7 => some M7
-- 67: PipelineSimulator$Operator.returnToSaved()V
def f_op_returnToSaved_41 (k21 : Nat → Int32 → Int32 → Mem → Option (Mem)) (l1 : Nat) (l2 : Int32) (l3 : Int32) (M : Mem) : Option (Mem) :=
  k21 l1 l2 (l3 + (1 : Int32)) M
def f_op_returnToSaved_21 : Nat → Nat → Int32 → Int32 → Mem → Option (Mem)
  | 0, _, _, _, _ => none
  | n + 1, l1, l2, l3, M => if l2 ≤ l3 then (some M) else aA M l1 l3 fun a1 => ck M a1 3 <| cV (f_is_returnToSaved a1 M) fun M2 => f_op_returnToSaved_41 (f_op_returnToSaved_21 n) l1 l2 l3 M2
def f_op_returnToSaved (p0 : Nat) (M : Mem) : Option (Mem) :=
  gA 6 1 M p0 fun a1 => gA 6 3 M p0 fun a2 => ck M a1 4 <| cV (f_ky_copyAll a1 a2 M) fun M3 => gA 6 0 M3 p0 fun a4 => aN M3 a4 fun v5 => f_op_returnToSaved_21 FU a4 v5 (0 : Int32) M3
-- 68: PipelineSimulator$Simulation.returnToSaved()V
def f_sm_returnToSaved_43 (k23 : Nat → Nat → Int32 → Int32 → Mem → Option (Mem)) (l0 : Nat) (l1 : Nat) (l2 : Int32) (l3 : Int32) (M : Mem) : Option (Mem) :=
  k23 l0 l1 l2 (l3 + (1 : Int32)) M
def f_sm_returnToSaved_79 (k59 : Nat → Int32 → Int32 → Mem → Option (Mem)) (l1 : Nat) (l2 : Int32) (l3 : Int32) (M : Mem) : Option (Mem) :=
  k59 l1 l2 (l3 + (1 : Int32)) M
def f_sm_returnToSaved_59 : Nat → Nat → Int32 → Int32 → Mem → Option (Mem)
  | 0, _, _, _, _ => none
  | n + 1, l1, l2, l3, M => if l2 ≤ l3 then (some M) else aA M l1 l3 fun a1 => ck M a1 6 <| cV (f_op_returnToSaved a1 M) fun M2 => f_sm_returnToSaved_79 (f_sm_returnToSaved_59 n) l1 l2 l3 M2
def f_sm_returnToSaved_23 : Nat → Nat → Nat → Int32 → Int32 → Mem → Option (Mem)
  | 0, _, _, _, _, _ => none
  | n + 1, l0, l1, l2, l3, M => if l2 ≤ l3 then (gA 11 2 M l0 fun a1 => aN M a1 fun v2 => f_sm_returnToSaved_59 FU a1 v2 (0 : Int32) M) else aA M l1 l3 fun a3 => ck M a3 1 <| cV (f_ch_wipe a3 M) fun M4 => f_sm_returnToSaved_43 (f_sm_returnToSaved_23 n) l0 l1 l2 l3 M4
def f_sm_returnToSaved (p0 : Nat) (M : Mem) : Option (Mem) :=
  pI 11 12 M p0 (0 : Int32) fun M1 => gI 11 8 M1 p0 fun v2 => pI 11 6 M1 p0 v2 fun M3 => gA 11 3 M3 p0 fun a4 => aN M3 a4 fun v5 => f_sm_returnToSaved_23 FU p0 a4 v5 (0 : Int32) M3
-- 69: PipelineSimulator$Simulation.beginAnew()V
def f_sm_beginAnew_30 (k10 : Nat → Nat → Int32 → Int32 → Mem → Option (Mem)) (l0 : Nat) (l1 : Nat) (l2 : Int32) (l3 : Int32) (M : Mem) : Option (Mem) :=
  k10 l0 l1 l2 (l3 + (1 : Int32)) M
def f_sm_beginAnew_10 : Nat → Nat → Nat → Int32 → Int32 → Mem → Option (Mem)
  | 0, _, _, _, _, _ => none
  | n + 1, l0, l1, l2, l3, M => if l2 ≤ l3 then (gA 11 4 M l0 fun a1 => ck M a1 5 <| cV (f_la_wipe a1 M) fun M2 => pI 11 8 M2 l0 (0 : Int32) fun M3 => pI 11 11 M3 l0 (0 : Int32) fun M4 => pI 11 9 M4 l0 (0 : Int32) fun M5 => pZ 11 14 M5 l0 (0 : Int32) fun M6 => ck M6 l0 11 <| cV (f_sm_returnToSaved l0 M6) fun M7 => pI 11 10 M7 l0 (0 : Int32) fun M8 => some M8) else aA M l1 l3 fun a9 => ck M a9 6 <| cV (f_op_forgetAll a9 M) fun M10 => f_sm_beginAnew_30 (f_sm_beginAnew_10 n) l0 l1 l2 l3 M10
def f_sm_beginAnew (p0 : Nat) (M : Mem) : Option (Mem) :=
  gA 11 2 M p0 fun a1 => aN M a1 fun v2 => f_sm_beginAnew_10 FU p0 a1 v2 (0 : Int32) M
-- 70: PipelineSimulator$Simulation.replacePipeline(LPipelineSimulator$Reader;)V
def f_sm_replacePipeline_63 (k10 : Nat → Nat → Int32 → Mem → Option (Mem)) (l0 : Nat) (l1 : Nat) (l2 : Int32) (M : Mem) : Option (Mem) :=
  k10 l0 l1 (l2 + (1 : Int32)) M
def f_sm_replacePipeline_96 (l0 : Nat) (M : Mem) : Option (Mem) :=
  ck M l0 11 <| cV (f_sm_beginAnew l0 M) fun M1 => some M1
def f_sm_replacePipeline_69 (l0 : Nat) (l1 : Nat) (M : Mem) : Option (Mem) :=
  gI 11 5 M l0 fun v1 => ck M l0 11 <| cR (f_sm_operatorAt l0 (v1 + (1 : Int32)) M) fun o3 M2 => onR o3 (f_sm_replacePipeline_96 l0 M2) (fun a4 => gI 8 6 M2 l1 fun v5 => ck M2 a4 6 <| cV (f_op_become a4 (8 : Int32) (0 : Int32) (0 : Int32) v5 M2) fun M6 => f_sm_replacePipeline_96 l0 M6)
def f_sm_replacePipeline_10 : Nat → Nat → Nat → Int32 → Mem → Option (Mem)
  | 0, _, _, _, _ => none
  | n + 1, l0, l1, l2, M => gI 11 5 M l0 fun v1 => if v1 ≤ l2 then (f_sm_replacePipeline_69 l0 l1 M) else if (4 : Int32) ≤ l2 then (f_sm_replacePipeline_69 l0 l1 M) else ck M l0 11 <| cR (f_sm_operatorAt l0 (l2 + (1 : Int32)) M) fun o3 M2 => onR o3 (f_sm_replacePipeline_63 (f_sm_replacePipeline_10 n) l0 l1 l2 M2) (fun a4 => gA 8 1 M2 l1 fun a5 => aI M2 a5 l2 fun v6 => gA 8 2 M2 l1 fun a7 => aI M2 a7 l2 fun v8 => gA 8 3 M2 l1 fun a9 => aI M2 a9 l2 fun v10 => gA 8 4 M2 l1 fun a11 => aI M2 a11 l2 fun v12 => ck M2 a4 6 <| cV (f_op_become a4 v6 v8 v10 v12 M2) fun M13 => f_sm_replacePipeline_63 (f_sm_replacePipeline_10 n) l0 l1 l2 M13)
def f_sm_replacePipeline (p0 : Nat) (p1 : Nat) (M : Mem) : Option (Mem) :=
  gI 8 5 M p1 fun v1 => pI 11 5 M p0 v1 fun M2 => f_sm_replacePipeline_10 FU p0 p1 (0 : Int32) M2
-- 71: PipelineSimulator$Plain.forget()V
def f_pl_forget_40 (k7 : Nat → Int32 → Mem → Option (Mem)) (l0 : Nat) (l1 : Int32) (M : Mem) : Option (Mem) :=
  k7 l0 (l1 + (1 : Int32)) M
def f_pl_forget_7 : Nat → Nat → Int32 → Mem → Option (Mem)
  | 0, _, _, _ => none
  | n + 1, l0, l1, M => gA 7 0 M l0 fun a1 => gI 11 5 M a1 fun v2 => if (v2 + (1 : Int32)) < l1 then (some M) else gA 7 0 M l0 fun a3 => ck M a3 11 <| cR (f_sm_operatorAt a3 l1 M) fun o5 M4 => onR o5 (f_pl_forget_40 (f_pl_forget_7 n) l0 l1 M4) (fun a6 => gA 6 4 M4 a6 fun a7 => ck M4 a7 4 <| cV (f_ky_wipe a7 M4) fun M8 => f_pl_forget_40 (f_pl_forget_7 n) l0 l1 M8)
def f_pl_forget (p0 : Nat) (M : Mem) : Option (Mem) :=
  pI 7 1 M p0 (0 : Int32) fun M1 => f_pl_forget_7 FU p0 (0 : Int32) M1
-- 72: PipelineSimulator.readPipeline()I
def f_x_readPipeline (p0 : Nat) (M : Mem) : Option (Int32 × Mem) :=
  gA 12 2 M p0 fun a1 => ck M a1 8 <| cI (f_rd_readAll a1 M) fun v3 M2 => gA 12 0 M2 p0 fun a4 => ck M2 a4 14 <| cV (f_sb_setLength a4 (0 : Int32) M2) fun M5 => if v3 = (0 : Int32) then (gA 12 2 M5 p0 fun a13 => gI 8 7 M5 a13 fun v14 => some (((-2000 : Int32) - v14), M5)) else gA 12 3 M5 p0 fun a6 => gA 12 2 M5 p0 fun a7 => ck M5 a6 11 <| cV (f_sm_replacePipeline a6 a7 M5) fun M8 => gA 12 4 M8 p0 fun a9 => ck M8 a9 7 <| cV (f_pl_forget a9 M8) fun M10 => gA 12 3 M10 p0 fun a11 => gI 11 5 M10 a11 fun v12 => some (v12, M10)
-- 73: PipelineSimulatorModel.here()I
def f_m_here (p0 : Nat) (M : Mem) : Option (Int32 × Mem) :=
  gI 13 60 M p0 fun v1 => gI 13 1 M p0 fun v2 => if v2 ≤ v1 then (some ((-1 : Int32), M)) else gA 13 0 M p0 fun a3 => gI 13 60 M p0 fun v4 => aI M a3 v4 fun v5 => some (v5, M)
-- 74: PipelineSimulatorModel.letter(I)I
def f_m_letter (p0 : Int32) (M : Mem) : Option (Int32 × Mem) :=
  if p0 = (109 : Int32) then (some ((0 : Int32), M)) else if p0 = (102 : Int32) then (some ((1 : Int32), M)) else if p0 = (107 : Int32) then (some ((2 : Int32), M)) else if p0 = (99 : Int32) then (some ((3 : Int32), M)) else if p0 = (115 : Int32) then (some ((4 : Int32), M)) else if p0 = (100 : Int32) then (some ((5 : Int32), M)) else if p0 = (114 : Int32) then (some ((6 : Int32), M)) else some ((-1 : Int32), M)
-- 75: PipelineSimulatorModel.sign(I)V
def f_m_sign_39 (s0 : Int32) (s1 : Int32) (s2 : Nat) (M : Mem) : Option (Mem) :=
  pI 13 60 M s2 (s1 + s0) fun M1 => some M1
def f_m_sign_18 (l0 : Nat) (s0 : Int32) (s1 : Int32) (s2 : Nat) (M : Mem) : Option (Mem) :=
  pZ 13 61 M s2 (s1 ||| s0) fun M1 => gI 13 60 M1 l0 fun v2 => gI 13 61 M1 l0 fun v3 => if v3 = (0 : Int32) then (f_m_sign_39 (1 : Int32) v2 l0 M1) else f_m_sign_39 (0 : Int32) v2 l0 M1
def f_m_sign (p0 : Nat) (p1 : Int32) (M : Mem) : Option (Mem) :=
  gI 13 61 M p0 fun v1 => ck M p0 13 <| cI (f_m_here p0 M) fun v3 M2 => if v3 = p1 then (f_m_sign_18 p0 (0 : Int32) v1 p0 M2) else f_m_sign_18 p0 (1 : Int32) v1 p0 M2
-- 76: PipelineSimulatorModel.number(II)I
def f_m_number_162 (l4 : Int32) (s0 : Int32) (s1 : Int32) (s2 : Nat) (M : Mem) : Option (Int32 × Mem) :=
  pZ 13 61 M s2 (s1 ||| s0) fun M1 => some (l4, M1)
def f_m_number_140 (l0 : Nat) (l1 : Int32) (l2 : Int32) (s0 : Int32) (M : Mem) : Option (Int32 × Mem) :=
  gI 13 61 M l0 fun v1 => cI (f_m_isIn s0 l1 l2 M) fun v3 M2 => if v3 = (0 : Int32) then (f_m_number_162 s0 (1 : Int32) v1 l0 M2) else f_m_number_162 s0 (0 : Int32) v1 l0 M2
def f_m_number_128 (l0 : Nat) (l1 : Int32) (l2 : Int32) (l3 : Int32) (l4 : Int32) (M : Mem) : Option (Int32 × Mem) :=
  if l3 = (0 : Int32) then (f_m_number_140 l0 l1 l2 l4 M) else f_m_number_140 l0 l1 l2 (-l4) M
def f_m_number_57 (l0 : Nat) (l1 : Int32) (l2 : Int32) (l3 : Int32) (s0 : Int32) (s1 : Int32) (s2 : Nat) (M : Mem) : Option (Int32 × Mem) :=
  pZ 13 61 M s2 (s1 ||| s0) fun M1 => gI 13 61 M1 l0 fun v2 => if v2 = (0 : Int32) then (ck M1 l0 13 <| cI (f_m_here l0 M1) fun v4 M3 => gI 13 60 M3 l0 fun v5 => pI 13 60 M3 l0 (v5 + (1 : Int32)) fun M6 => ck M6 l0 13 <| cI (f_m_here l0 M6) fun v8 M7 => cI (f_m_isIn v8 (48 : Int32) (57 : Int32) M7) fun v10 M9 => if v10 = (0 : Int32) then (f_m_number_128 l0 l1 l2 l3 (v4 - (48 : Int32)) M9) else ck M9 l0 13 <| cI (f_m_here l0 M9) fun v12 M11 => gI 13 60 M11 l0 fun v13 => pI 13 60 M11 l0 (v13 + (1 : Int32)) fun M14 => f_m_number_128 l0 l1 l2 l3 ((((10 : Int32) * (v4 - (48 : Int32))) + v12) - (48 : Int32)) M14) else some ((0 : Int32), M1)
def f_m_number_29 (l0 : Nat) (l1 : Int32) (l2 : Int32) (l3 : Int32) (s0 : Int32) (s1 : Int32) (s2 : Nat) (M : Mem) : Option (Int32 × Mem) :=
  pI 13 60 M s2 (s1 + s0) fun M1 => gI 13 61 M1 l0 fun v2 => ck M1 l0 13 <| cI (f_m_here l0 M1) fun v4 M3 => cI (f_m_isIn v4 (48 : Int32) (57 : Int32) M3) fun v6 M5 => if v6 = (0 : Int32) then (f_m_number_57 l0 l1 l2 l3 (1 : Int32) v2 l0 M5) else f_m_number_57 l0 l1 l2 l3 (0 : Int32) v2 l0 M5
def f_m_number_14 (l0 : Nat) (l1 : Int32) (l2 : Int32) (s0 : Int32) (M : Mem) : Option (Int32 × Mem) :=
  gI 13 60 M l0 fun v1 => if s0 = (0 : Int32) then (f_m_number_29 l0 l1 l2 s0 (0 : Int32) v1 l0 M) else f_m_number_29 l0 l1 l2 s0 (1 : Int32) v1 l0 M
def f_m_number (p0 : Nat) (p1 : Int32) (p2 : Int32) (M : Mem) : Option (Int32 × Mem) :=
  ck M p0 13 <| cI (f_m_here p0 M) fun v2 M1 => if v2 = (45 : Int32) then (f_m_number_14 p0 p1 p2 (1 : Int32) M1) else f_m_number_14 p0 p1 p2 (0 : Int32) M1
-- 77: PipelineSimulatorModel.instances()I
def f_m_instances_48 (l1 : Int32) (s0 : Int32) (s1 : Int32) (s2 : Nat) (M : Mem) : Option (Int32 × Mem) :=
  pI 13 60 M s2 (s1 + s0) fun M1 => some (l1, M1)
def f_m_instances_27 (l0 : Nat) (l1 : Int32) (s0 : Int32) (s1 : Int32) (s2 : Nat) (M : Mem) : Option (Int32 × Mem) :=
  pZ 13 61 M s2 (s1 ||| s0) fun M1 => gI 13 60 M1 l0 fun v2 => gI 13 61 M1 l0 fun v3 => if v3 = (0 : Int32) then (f_m_instances_48 l1 (1 : Int32) v2 l0 M1) else f_m_instances_48 l1 (0 : Int32) v2 l0 M1
def f_m_instances (p0 : Nat) (M : Mem) : Option (Int32 × Mem) :=
  ck M p0 13 <| cI (f_m_here p0 M) fun v2 M1 => gI 13 61 M1 p0 fun v3 => cI (f_m_isIn (v2 - (48 : Int32)) (1 : Int32) (3 : Int32) M1) fun v5 M4 => if v5 = (0 : Int32) then (f_m_instances_27 p0 (v2 - (48 : Int32)) (1 : Int32) v3 p0 M4) else f_m_instances_27 p0 (v2 - (48 : Int32)) (0 : Int32) v3 p0 M4
-- 78: PipelineSimulatorModel.stage(I)V
def f_m_stage_211 (l0 : Nat) (l1 : Int32) (M : Mem) : Option (Mem) :=
  gI 13 61 M l0 fun v1 => if v1 = (0 : Int32) then (ck M l0 13 <| cI (f_m_here l0 M) fun v3 M2 => cI (f_m_isIn v3 (48 : Int32) (57 : Int32) M2) fun v5 M4 => if v5 = (0 : Int32) then (some M4) else gA 13 65 M4 l0 fun a6 => ck M4 l0 13 <| cI (f_m_instances l0 M4) fun v8 M7 => sI M7 a6 l1 v8 fun M9 => some M9) else some M
def f_m_stage_198 (l0 : Nat) (l1 : Int32) (M : Mem) : Option (Mem) :=
  gI 13 61 M l0 fun v1 => if v1 = (0 : Int32) then (ck M l0 13 <| cV (f_m_sign l0 (41 : Int32) M) fun M2 => f_m_stage_211 l0 l1 M2) else f_m_stage_211 l0 l1 M
def f_m_stage_172 (l0 : Nat) (l1 : Int32) (l2 : Int32) (M : Mem) : Option (Mem) :=
  gI 13 61 M l0 fun v1 => if v1 = (0 : Int32) then (if (3 : Int32) ≤ l2 then (f_m_stage_198 l0 l1 M) else gA 13 64 M l0 fun a2 => ck M l0 13 <| cI (f_m_number l0 (-99 : Int32) (99 : Int32) M) fun v4 M3 => sI M3 a2 l1 v4 fun M5 => f_m_stage_198 l0 l1 M5) else f_m_stage_198 l0 l1 M
def f_m_stage_154 (l0 : Nat) (l1 : Int32) (l2 : Int32) (M : Mem) : Option (Mem) :=
  gI 13 61 M l0 fun v1 => if v1 = (0 : Int32) then (if (3 : Int32) ≤ l2 then (f_m_stage_172 l0 l1 l2 M) else ck M l0 13 <| cV (f_m_sign l0 (44 : Int32) M) fun M2 => f_m_stage_172 l0 l1 l2 M2) else f_m_stage_172 l0 l1 l2 M
def f_m_stage_150 (l0 : Nat) (l1 : Int32) (l2 : Int32) (s0 : Int32) (s1 : Int32) (s2 : Nat) (s3 : Int32) (s4 : Nat) (M : Mem) : Option (Mem) :=
  ck M s2 13 <| cI (f_m_number s2 s1 s0 M) fun v2 M1 => sI M1 s4 s3 v2 fun M3 => f_m_stage_154 l0 l1 l2 M3
def f_m_stage_121 (l0 : Nat) (l1 : Int32) (l2 : Int32) (s0 : Int32) (s1 : Nat) (s2 : Int32) (s3 : Nat) (M : Mem) : Option (Mem) :=
  if l2 = (1 : Int32) then (f_m_stage_150 l0 l1 l2 (2 : Int32) s0 s1 s2 s3 M) else if l2 = (3 : Int32) then (f_m_stage_150 l0 l1 l2 (3 : Int32) s0 s1 s2 s3 M) else if l2 = (4 : Int32) then (f_m_stage_150 l0 l1 l2 (5 : Int32) s0 s1 s2 s3 M) else f_m_stage_150 l0 l1 l2 (99 : Int32) s0 s1 s2 s3 M
def f_m_stage_106 (l0 : Nat) (l1 : Int32) (l2 : Int32) (s0 : Nat) (s1 : Int32) (s2 : Nat) (M : Mem) : Option (Mem) :=
  f_m_stage_121 l0 l1 l2 (0 : Int32) s0 s1 s2 M
def f_m_stage_22 (l0 : Nat) (l1 : Int32) (l2 : Int32) (s0 : Int32) (s1 : Int32) (s2 : Nat) (M : Mem) : Option (Mem) :=
  pZ 13 61 M s2 (s1 ||| s0) fun M1 => gI 13 61 M1 l0 fun v2 => if v2 = (0 : Int32) then (gI 13 60 M1 l0 fun v3 => pI 13 60 M1 l0 (v3 + (1 : Int32)) fun M4 => gA 13 62 M4 l0 fun a5 => sI M4 a5 l1 l2 fun M6 => gA 13 63 M6 l0 fun a7 => sI M6 a7 l1 (0 : Int32) fun M8 => gA 13 64 M8 l0 fun a9 => sI M8 a9 l1 (0 : Int32) fun M10 => gA 13 65 M10 l0 fun a11 => sI M10 a11 l1 (1 : Int32) fun M12 => if (5 : Int32) ≤ l2 then (f_m_stage_211 l0 l1 M12) else ck M12 l0 13 <| cV (f_m_sign l0 (40 : Int32) M12) fun M13 => gI 13 61 M13 l0 fun v14 => if v14 = (0 : Int32) then (gA 13 63 M13 l0 fun a15 => if l2 = (1 : Int32) then (f_m_stage_106 l0 l1 l2 l0 l1 a15 M13) else if l2 = (3 : Int32) then (f_m_stage_106 l0 l1 l2 l0 l1 a15 M13) else if l2 = (4 : Int32) then (f_m_stage_121 l0 l1 l2 (1 : Int32) l0 l1 a15 M13) else f_m_stage_121 l0 l1 l2 (-99 : Int32) l0 l1 a15 M13) else f_m_stage_154 l0 l1 l2 M13) else some M1
def f_m_stage (p0 : Nat) (p1 : Int32) (M : Mem) : Option (Mem) :=
  ck M p0 13 <| cI (f_m_here p0 M) fun v2 M1 => cI (f_m_letter v2 M1) fun v4 M3 => gI 13 61 M3 p0 fun v5 => if (0 : Int32) ≤ v4 then (f_m_stage_22 p0 p1 v4 (0 : Int32) v5 p0 M3) else f_m_stage_22 p0 p1 v4 (1 : Int32) v5 p0 M3
-- 79: PipelineSimulatorModel.breaks()V
def f_m_breaks_103 : Nat → Nat → Int32 → Mem → Option (Mem)
  | 0, _, _, _ => none
  | n + 1, l0, l1, M => if (96 : Int32) ≤ l1 then (gI 13 37 M l0 fun v1 => pI 13 14 M l0 v1 fun M2 => some M2) else gA 13 24 M l0 fun a3 => gA 13 26 M l0 fun a4 => aB M a4 l1 fun v5 => sB M a3 l1 v5 fun M6 => gA 13 27 M6 l0 fun a7 => gA 13 29 M6 l0 fun a8 => aI M6 a8 l1 fun v9 => sI M6 a7 l1 v9 fun M10 => gA 13 30 M10 l0 fun a11 => gA 13 32 M10 l0 fun a12 => aI M10 a12 l1 fun v13 => sI M10 a11 l1 v13 fun M14 => f_m_breaks_103 n l0 (l1 + (1 : Int32)) M14
def f_m_breaks_61 : Nat → Nat → Int32 → Mem → Option (Mem)
  | 0, _, _, _ => none
  | n + 1, l0, l1, M => if (54 : Int32) ≤ l1 then (f_m_breaks_103 FU l0 (0 : Int32) M) else gA 13 46 M l0 fun a1 => sI M a1 l1 (0 : Int32) fun M2 => gA 13 47 M2 l0 fun a3 => sI M2 a3 l1 (0 : Int32) fun M4 => gA 13 51 M4 l0 fun a5 => sI M4 a5 l1 (0 : Int32) fun M6 => gA 13 52 M6 l0 fun a7 => sI M6 a7 l1 (0 : Int32) fun M8 => f_m_breaks_61 n l0 (l1 + (1 : Int32)) M8
def f_m_breaks_7 : Nat → Nat → Int32 → Mem → Option (Mem)
  | 0, _, _, _ => none
  | n + 1, l0, l1, M => if (18 : Int32) ≤ l1 then (f_m_breaks_61 FU l0 (0 : Int32) M) else gA 13 39 M l0 fun a1 => sI M a1 l1 (0 : Int32) fun M2 => gA 13 43 M2 l0 fun a3 => sI M2 a3 l1 (0 : Int32) fun M4 => gA 13 44 M4 l0 fun a5 => sI M4 a5 l1 (0 : Int32) fun M6 => gA 13 45 M6 l0 fun a7 => sB M6 a7 l1 (0 : Int32) fun M8 => gA 13 33 M8 l0 fun a9 => gA 13 35 M8 l0 fun a10 => aI M8 a10 l1 fun v11 => sI M8 a9 l1 v11 fun M12 => f_m_breaks_7 n l0 (l1 + (1 : Int32)) M12
def f_m_breaks (p0 : Nat) (M : Mem) : Option (Mem) :=
  pI 13 17 M p0 (0 : Int32) fun M1 => f_m_breaks_7 FU p0 (0 : Int32) M1
-- 80: PipelineSimulatorModel.begins()V
def f_m_begins_114 : Nat → Nat → Int32 → Mem → Option (Mem)
  | 0, _, _, _ => none
  | n + 1, l0, l1, M => if (6 : Int32) ≤ l1 then (ck M l0 13 <| cV (f_m_breaks l0 M) fun M1 => some M1) else gA 13 20 M l0 fun a2 => sI M a2 l1 (0 : Int32) fun M3 => gA 13 21 M3 l0 fun a4 => sI M3 a4 l1 (0 : Int32) fun M5 => gA 13 22 M5 l0 fun a6 => sI M5 a6 l1 (0 : Int32) fun M7 => gA 13 23 M7 l0 fun a8 => sI M7 a8 l1 (0 : Int32) fun M9 => f_m_begins_114 n l0 (l1 + (1 : Int32)) M9
def f_m_begins_93 : Nat → Nat → Int32 → Mem → Option (Mem)
  | 0, _, _, _ => none
  | n + 1, l0, l1, M => if (18 : Int32) ≤ l1 then (f_m_begins_114 FU l0 (0 : Int32) M) else gA 13 35 M l0 fun a1 => sI M a1 l1 (0 : Int32) fun M2 => f_m_begins_93 n l0 (l1 + (1 : Int32)) M2
def f_m_begins_58 : Nat → Nat → Int32 → Mem → Option (Mem)
  | 0, _, _, _ => none
  | n + 1, l0, l1, M => if (96 : Int32) ≤ l1 then (f_m_begins_93 FU l0 (0 : Int32) M) else gA 13 26 M l0 fun a1 => sB M a1 l1 (0 : Int32) fun M2 => gA 13 29 M2 l0 fun a3 => sI M2 a3 l1 (0 : Int32) fun M4 => gA 13 32 M4 l0 fun a5 => sI M4 a5 l1 (0 : Int32) fun M6 => f_m_begins_58 n l0 (l1 + (1 : Int32)) M6
def f_m_begins_17 : Nat → Nat → Int32 → Mem → Option (Mem)
  | 0, _, _, _ => none
  | n + 1, l0, l1, M => if (40000 : Int32) ≤ l1 then (pI 13 16 M l0 (0 : Int32) fun M1 => pI 13 18 M1 l0 (0 : Int32) fun M2 => pZ 13 19 M2 l0 (0 : Int32) fun M3 => pI 13 37 M3 l0 (0 : Int32) fun M4 => f_m_begins_58 FU l0 (0 : Int32) M4) else gA 13 57 M l0 fun a5 => sI M a5 l1 (0 : Int32) fun M6 => f_m_begins_17 n l0 (l1 + (1 : Int32)) M6
def f_m_begins (p0 : Nat) (M : Mem) : Option (Mem) :=
  pI 13 15 M p0 (0 : Int32) fun M1 => pI 13 58 M1 p0 (0 : Int32) fun M2 => pJ 13 59 M2 p0 (0 : Int64) fun M3 => f_m_begins_17 FU p0 (0 : Int32) M3
-- 81: PipelineSimulatorModel.readPipeline()I
def f_m_readPipeline_206 : Nat → Nat → Int32 → Int32 → Mem → Option (Int32 × Mem)
  | 0, _, _, _, _ => none
  | n + 1, l0, l1, l3, M => if l1 < l3 then (gA 13 3 M l0 fun a1 => sI M a1 (l1 + (1 : Int32)) (8 : Int32) fun M2 => gA 13 4 M2 l0 fun a3 => sI M2 a3 (l1 + (1 : Int32)) (0 : Int32) fun M4 => gA 13 5 M4 l0 fun a5 => sI M4 a5 (l1 + (1 : Int32)) (0 : Int32) fun M6 => gA 13 6 M6 l0 fun a7 => gA 13 65 M6 l0 fun a8 => aI M6 a8 (l1 + (1 : Int32)) fun v9 => sI M6 a7 (l1 + (1 : Int32)) v9 fun M10 => ck M10 l0 13 <| cV (f_m_begins l0 M10) fun M11 => some (l1, M11)) else gA 13 3 M l0 fun a12 => gA 13 62 M l0 fun a13 => aI M a13 l3 fun v14 => sI M a12 l3 v14 fun M15 => gA 13 4 M15 l0 fun a16 => gA 13 63 M15 l0 fun a17 => aI M15 a17 l3 fun v18 => sI M15 a16 l3 v18 fun M19 => gA 13 5 M19 l0 fun a20 => gA 13 64 M19 l0 fun a21 => aI M19 a21 l3 fun v22 => sI M19 a20 l3 v22 fun M23 => gA 13 6 M23 l0 fun a24 => gA 13 65 M23 l0 fun a25 => aI M23 a25 l3 fun v26 => sI M23 a24 l3 v26 fun M27 => f_m_readPipeline_206 n l0 l1 (l3 + (1 : Int32)) M27
def f_m_readPipeline_174 (l0 : Nat) (l1 : Int32) (s0 : Int32) (s1 : Int32) (s2 : Nat) (M : Mem) : Option (Int32 × Mem) :=
  pZ 13 61 M s2 (s1 ||| s0) fun M1 => pI 13 1 M1 l0 (0 : Int32) fun M2 => gI 13 61 M2 l0 fun v3 => if v3 = (0 : Int32) then (pI 13 2 M2 l0 l1 fun M4 => f_m_readPipeline_206 FU l0 l1 (1 : Int32) M4) else gI 13 60 M2 l0 fun v5 => some (((-2000 : Int32) - v5), M2)
def f_m_readPipeline_153 (l0 : Nat) (l1 : Int32) (M : Mem) : Option (Int32 × Mem) :=
  gI 13 61 M l0 fun v1 => gI 13 60 M l0 fun v2 => gI 13 1 M l0 fun v3 => if v3 ≤ v2 then (f_m_readPipeline_174 l0 l1 (0 : Int32) v1 l0 M) else f_m_readPipeline_174 l0 l1 (1 : Int32) v1 l0 M
def f_m_readPipeline_113 (l0 : Nat) (l1 : Int32) (s0 : Int32) (s1 : Nat) (M : Mem) : Option (Int32 × Mem) :=
  sI M s1 s0 (1 : Int32) fun M1 => gI 13 61 M1 l0 fun v2 => if v2 = (0 : Int32) then (ck M1 l0 13 <| cI (f_m_here l0 M1) fun v4 M3 => if v4 = (36 : Int32) then (gI 13 60 M3 l0 fun v5 => pI 13 60 M3 l0 (v5 + (1 : Int32)) fun M6 => gA 13 65 M6 l0 fun a7 => ck M6 l0 13 <| cI (f_m_instances l0 M6) fun v9 M8 => sI M8 a7 (l1 + (1 : Int32)) v9 fun M10 => f_m_readPipeline_153 l0 l1 M10) else f_m_readPipeline_153 l0 l1 M3) else f_m_readPipeline_153 l0 l1 M1
def f_m_readPipeline_87 (k34 : Nat → Int32 → Int32 → Mem → Option (Int32 × Mem)) (l0 : Nat) (l1 : Int32) (l2 : Int32) (s0 : Int32) (s1 : Int32) (s2 : Nat) (M : Mem) : Option (Int32 × Mem) :=
  pI 13 60 M s2 (s1 + s0) fun M1 => k34 l0 l1 l2 M1
def f_m_readPipeline_72 (k34 : Nat → Int32 → Int32 → Mem → Option (Int32 × Mem)) (l0 : Nat) (l1 : Int32) (s0 : Int32) (M : Mem) : Option (Int32 × Mem) :=
  gI 13 60 M l0 fun v1 => if s0 = (0 : Int32) then (f_m_readPipeline_87 k34 l0 l1 s0 (0 : Int32) v1 l0 M) else f_m_readPipeline_87 k34 l0 l1 s0 (1 : Int32) v1 l0 M
def f_m_readPipeline_71 (k34 : Nat → Int32 → Int32 → Mem → Option (Int32 × Mem)) (l0 : Nat) (l1 : Int32) (M : Mem) : Option (Int32 × Mem) :=
  f_m_readPipeline_72 k34 l0 l1 (0 : Int32) M
def f_m_readPipeline_34 : Nat → Nat → Int32 → Int32 → Mem → Option (Int32 × Mem)
  | 0, _, _, _, _ => none
  | n + 1, l0, l1, l2, M => if l2 = (0 : Int32) then (gA 13 65 M l0 fun a1 => if (6 : Int32) ≤ (l1 + (1 : Int32)) then (f_m_readPipeline_113 l0 l1 (0 : Int32) a1 M) else f_m_readPipeline_113 l0 l1 (l1 + (1 : Int32)) a1 M) else ck M l0 13 <| cV (f_m_stage l0 (l1 + (1 : Int32)) M) fun M2 => gI 13 61 M2 l0 fun v3 => if v3 = (0 : Int32) then (ck M2 l0 13 <| cI (f_m_here l0 M2) fun v5 M4 => if v5 = (124 : Int32) then (if (4 : Int32) ≤ (l1 + (1 : Int32)) then (f_m_readPipeline_71 (f_m_readPipeline_34 n) l0 (l1 + (1 : Int32)) M4) else f_m_readPipeline_72 (f_m_readPipeline_34 n) l0 (l1 + (1 : Int32)) (1 : Int32) M4) else f_m_readPipeline_71 (f_m_readPipeline_34 n) l0 (l1 + (1 : Int32)) M4) else f_m_readPipeline_71 (f_m_readPipeline_34 n) l0 (l1 + (1 : Int32)) M2
def f_m_readPipeline_33 (l0 : Nat) (l1 : Int32) (s0 : Int32) (M : Mem) : Option (Int32 × Mem) :=
  f_m_readPipeline_34 FU l0 l1 s0 M
def f_m_readPipeline_32 (l0 : Nat) (l1 : Int32) (M : Mem) : Option (Int32 × Mem) :=
  f_m_readPipeline_33 l0 l1 (0 : Int32) M
def f_m_readPipeline (p0 : Nat) (M : Mem) : Option (Int32 × Mem) :=
  pI 13 60 M p0 (0 : Int32) fun M1 => pZ 13 61 M1 p0 (0 : Int32) fun M2 => gI 13 1 M2 p0 fun v3 => if v3 ≤ (0 : Int32) then (f_m_readPipeline_32 p0 (0 : Int32) M2) else ck M2 p0 13 <| cI (f_m_here p0 M2) fun v5 M4 => if v5 = (36 : Int32) then (f_m_readPipeline_32 p0 (0 : Int32) M4) else f_m_readPipeline_33 p0 (0 : Int32) (1 : Int32) M4
-- 82: PipelineSimulator$Settings.digits()I
def f_se_digits (p0 : Nat) (M : Mem) : Option (Int32 × Mem) :=
  gI 10 0 M p0 fun v1 => gI 10 1 M p0 fun v2 => gI 10 2 M p0 fun v3 => gI 10 3 M p0 fun v4 => some (((((v1 * (1000 : Int32)) + (v2 * (100 : Int32))) + (v3 * (10 : Int32))) + v4), M)
-- 83: PipelineSimulator$Settings.change(IIII)V
def f_se_change (p0 : Nat) (p1 : Int32) (p2 : Int32) (p3 : Int32) (p4 : Int32) (M : Mem) : Option (Mem) :=
  pI 10 0 M p0 p1 fun M1 => pI 10 1 M1 p0 p2 fun M2 => pI 10 2 M2 p0 p3 fun M3 => pI 10 3 M3 p0 p4 fun M4 => some M4
-- 84: PipelineSimulator.configure(IIII)I
def f_x_configure (p0 : Nat) (p1 : Int32) (p2 : Int32) (p3 : Int32) (p4 : Int32) (M : Mem) : Option (Int32 × Mem) :=
  if p1 < (1 : Int32) then (some ((-1000000002 : Int32), M)) else if (4 : Int32) < p1 then (some ((-1000000002 : Int32), M)) else if p2 < (1 : Int32) then (some ((-1000000002 : Int32), M)) else if p2 ≤ (9 : Int32) then (if p3 < (2 : Int32) then (some ((-1000000002 : Int32), M)) else if (4 : Int32) < p3 then (some ((-1000000002 : Int32), M)) else if p4 < (1 : Int32) then (some ((-1000000002 : Int32), M)) else if p4 ≤ (5 : Int32) then (gA 12 3 M p0 fun a1 => gI 11 14 M a1 fun v2 => if v2 = (0 : Int32) then (gA 12 3 M p0 fun a3 => gA 11 0 M a3 fun a4 => ck M a4 10 <| cI (f_se_digits a4 M) fun v6 M5 => gA 12 3 M5 p0 fun a7 => gA 11 0 M5 a7 fun a8 => ck M5 a8 10 <| cV (f_se_change a8 p1 p2 p3 p4 M5) fun M9 => some (v6, M9)) else some ((-1000000004 : Int32), M)) else some ((-1000000002 : Int32), M)) else some ((-1000000002 : Int32), M)
-- 85: PipelineSimulatorModel.configure(IIII)I
def f_m_configure (p0 : Nat) (p1 : Int32) (p2 : Int32) (p3 : Int32) (p4 : Int32) (M : Mem) : Option (Int32 × Mem) :=
  cI (f_m_isIn p1 (1 : Int32) (4 : Int32) M) fun v2 M1 => if v2 = (0 : Int32) then (some ((-1000000002 : Int32), M1)) else cI (f_m_isIn p2 (1 : Int32) (9 : Int32) M1) fun v4 M3 => if v4 = (0 : Int32) then (some ((-1000000002 : Int32), M3)) else cI (f_m_isIn p3 (2 : Int32) (4 : Int32) M3) fun v6 M5 => if v6 = (0 : Int32) then (some ((-1000000002 : Int32), M5)) else cI (f_m_isIn p4 (1 : Int32) (5 : Int32) M5) fun v8 M7 => if v8 = (0 : Int32) then (some ((-1000000002 : Int32), M7)) else gI 13 19 M7 p0 fun v9 => if v9 = (0 : Int32) then (gI 13 7 M7 p0 fun v10 => gI 13 8 M7 p0 fun v11 => gI 13 9 M7 p0 fun v12 => gI 13 10 M7 p0 fun v13 => pI 13 7 M7 p0 p1 fun M14 => pI 13 8 M14 p0 p2 fun M15 => pI 13 9 M15 p0 p3 fun M16 => pI 13 10 M16 p0 p4 fun M17 => some ((((((1000 : Int32) * v10) + ((100 : Int32) * v11)) + ((10 : Int32) * v12)) + v13), M17)) else some ((-1000000004 : Int32), M7)
-- 86: PipelineSimulator$Records.add(III)V
def f_rc_add (p0 : Nat) (p1 : Int32) (p2 : Int32) (p3 : Int32) (M : Mem) : Option (Mem) :=
  gI 9 5 M p0 fun v1 => gI 9 3 M p0 fun v2 => if v1 ≤ v2 then (gI 9 4 M p0 fun v3 => gI 9 5 M p0 fun v4 => gI 9 3 M p0 fun v5 => gA 9 0 M p0 fun a6 => sI M a6 ((v3 + v4) &&& v5) p1 fun M7 => gA 9 1 M7 p0 fun a8 => sI M7 a8 ((v3 + v4) &&& v5) p2 fun M9 => gA 9 2 M9 p0 fun a10 => sI M9 a10 ((v3 + v4) &&& v5) p3 fun M11 => gI 9 5 M11 p0 fun v12 => pI 9 5 M11 p0 (v12 + (1 : Int32)) fun M13 => some M13) else some M
-- 87: PipelineSimulator.push(II)I
def f_x_push (p0 : Nat) (p1 : Int32) (p2 : Int32) (M : Mem) : Option (Int32 × Mem) :=
  if p1 < (0 : Int32) then (some ((-1000000002 : Int32), M)) else if (16 : Int32) ≤ p1 then (some ((-1000000002 : Int32), M)) else if p2 < (-99 : Int32) then (some ((-1000000002 : Int32), M)) else if p2 ≤ (99 : Int32) then (gA 12 3 M p0 fun a1 => gA 11 1 M a1 fun a2 => gI 9 5 M a2 fun v3 => if v3 < (60 : Int32) then (gA 12 3 M p0 fun a4 => gA 11 1 M a4 fun a5 => ck M a5 9 <| cV (f_rc_add a5 p1 p2 (0 : Int32) M) fun M6 => gA 12 3 M6 p0 fun a7 => gA 11 1 M6 a7 fun a8 => gI 9 5 M6 a8 fun v9 => some (v9, M6)) else some ((-1000000003 : Int32), M)) else some ((-1000000002 : Int32), M)
-- 88: PipelineSimulatorModel.push(II)I
def f_m_push (p0 : Nat) (p1 : Int32) (p2 : Int32) (M : Mem) : Option (Int32 × Mem) :=
  cI (f_m_isIn p1 (0 : Int32) (15 : Int32) M) fun v2 M1 => if v2 = (0 : Int32) then (some ((-1000000002 : Int32), M1)) else cI (f_m_isIn p2 (-99 : Int32) (99 : Int32) M1) fun v4 M3 => if v4 = (0 : Int32) then (some ((-1000000002 : Int32), M3)) else gI 13 13 M3 p0 fun v5 => if v5 = (60 : Int32) then (some ((-1000000003 : Int32), M3)) else gA 13 11 M3 p0 fun a6 => gI 13 13 M3 p0 fun v7 => sI M3 a6 v7 p1 fun M8 => gA 13 12 M8 p0 fun a9 => gI 13 13 M8 p0 fun v10 => sI M8 a9 v10 p2 fun M11 => gI 13 13 M11 p0 fun v12 => pI 13 13 M11 p0 (v12 + (1 : Int32)) fun M13 => gI 13 13 M13 p0 fun v14 => some (v14, M13)
-- 89: PipelineSimulator$Channel.isEmpty()Z
def f_ch_isEmpty (p0 : Nat) (M : Mem) : Option (Int32 × Mem) :=
  gI 1 4 M p0 fun v1 => if v1 = (0 : Int32) then (gI 1 5 M p0 fun v2 => if v2 = (0 : Int32) then (some ((1 : Int32), M)) else some ((0 : Int32), M)) else some ((0 : Int32), M)
-- 90: PipelineSimulator$Simulation.sizeOf(I)I
def f_sm_sizeOf (p0 : Nat) (p1 : Int32) (M : Mem) : Option (Int32 × Mem) :=
  ck M p0 11 <| cR (f_sm_operatorAt p0 p1 M) fun o2 M1 => onR o2 (some ((0 : Int32), M1)) (fun a3 => gI 6 9 M1 a3 fun v4 => some (v4, M1))
-- 91: PipelineSimulator$Simulation.instanceAt(II)LPipelineSimulator$Instance;
def f_sm_instanceAt (p0 : Nat) (p1 : Int32) (p2 : Int32) (M : Mem) : Option (Option Nat × Mem) :=
  ck M p0 11 <| cR (f_sm_operatorAt p0 p1 M) fun o2 M1 => onR o2 (some (none, M1)) (fun a3 => if p2 < (0 : Int32) then (some (none, M1)) else gI 6 9 M1 a3 fun v4 => if v4 ≤ p2 then (some (none, M1)) else gA 6 0 M1 a3 fun a5 => aN M1 a5 fun v6 => if p2 < v6 then (gA 6 0 M1 a3 fun a7 => aA M1 a7 p2 fun a8 => some (some a8, M1)) else some (none, M1))
-- 92: PipelineSimulator$Simulation.recordsInLists()I
def f_sm_recordsInLists_51 (k4 : Nat → Int32 → Int32 → Mem → Option (Int32 × Mem)) (k16 : Nat → Int32 → Int32 → Int32 → Mem → Option (Int32 × Mem)) (l0 : Nat) (l2 : Int32) (l3 : Int32) (s0 : Int32) (s1 : Int32) (M : Mem) : Option (Int32 × Mem) :=
  k16 l0 (s1 + s0) l2 (l3 + (1 : Int32)) M
def f_sm_recordsInLists_16 (k4 : Nat → Int32 → Int32 → Mem → Option (Int32 × Mem)) : Nat → Nat → Int32 → Int32 → Int32 → Mem → Option (Int32 × Mem)
  | 0, _, _, _, _, _ => none
  | n + 1, l0, l1, l2, l3, M => ck M l0 11 <| cI (f_sm_sizeOf l0 l2 M) fun v2 M1 => if v2 ≤ l3 then (k4 l0 l1 (l2 + (1 : Int32)) M1) else ck M1 l0 11 <| cR (f_sm_instanceAt l0 l2 l3 M1) fun o4 M3 => onR o4 (f_sm_recordsInLists_51 k4 (f_sm_recordsInLists_16 k4 n) l0 l2 l3 (0 : Int32) l1 M3) (fun a5 => gA 3 0 M3 a5 fun a6 => gI 9 5 M3 a6 fun v7 => f_sm_recordsInLists_51 k4 (f_sm_recordsInLists_16 k4 n) l0 l2 l3 v7 l1 M3)
def f_sm_recordsInLists_4 : Nat → Nat → Int32 → Int32 → Mem → Option (Int32 × Mem)
  | 0, _, _, _, _ => none
  | n + 1, l0, l1, l2, M => gI 11 5 M l0 fun v1 => if (v1 + (1 : Int32)) < l2 then (some (l1, M)) else f_sm_recordsInLists_16 (f_sm_recordsInLists_4 n) FU l0 l1 l2 (0 : Int32) M
def f_sm_recordsInLists (p0 : Nat) (M : Mem) : Option (Int32 × Mem) :=
  f_sm_recordsInLists_4 FU p0 (0 : Int32) (0 : Int32) M
-- 93: PipelineSimulator$Simulation.quiet()Z
def f_sm_quiet_58 (k33 : Nat → Nat → Int32 → Int32 → Mem → Option (Int32 × Mem)) (l0 : Nat) (l1 : Nat) (l2 : Int32) (l3 : Int32) (M : Mem) : Option (Int32 × Mem) :=
  k33 l0 l1 l2 (l3 + (1 : Int32)) M
def f_sm_quiet_33 : Nat → Nat → Nat → Int32 → Int32 → Mem → Option (Int32 × Mem)
  | 0, _, _, _, _, _ => none
  | n + 1, l0, l1, l2, l3, M => if l2 ≤ l3 then (ck M l0 11 <| cI (f_sm_recordsInLists l0 M) fun v2 M1 => if v2 = (0 : Int32) then (some ((1 : Int32), M1)) else some ((0 : Int32), M1)) else aA M l1 l3 fun a3 => ck M a3 1 <| cI (f_ch_isEmpty a3 M) fun v5 M4 => if v5 = (0 : Int32) then (some ((0 : Int32), M4)) else f_sm_quiet_58 (f_sm_quiet_33 n) l0 l1 l2 l3 M4
def f_sm_quiet (p0 : Nat) (M : Mem) : Option (Int32 × Mem) :=
  gI 11 6 M p0 fun v1 => gA 11 1 M p0 fun a2 => gI 9 5 M a2 fun v3 => if v1 = v3 then (gI 11 12 M p0 fun v4 => if v4 = (0 : Int32) then (gA 11 3 M p0 fun a5 => aN M a5 fun v6 => f_sm_quiet_33 FU p0 a5 v6 (0 : Int32) M) else some ((0 : Int32), M)) else some ((0 : Int32), M)
-- 94: PipelineSimulator$Channel.hasRoom()Z
def f_ch_hasRoom (p0 : Nat) (M : Mem) : Option (Int32 × Mem) :=
  gI 1 4 M p0 fun v1 => gA 1 0 M p0 fun a2 => gI 10 2 M a2 fun v3 => if v3 ≤ v1 then (some ((0 : Int32), M)) else some ((1 : Int32), M)
-- 95: PipelineSimulator$Channel.enqueue(I)V
def f_ch_enqueue (p0 : Nat) (p1 : Int32) (M : Mem) : Option (Mem) :=
  gA 1 2 M p0 fun a1 => gI 1 3 M p0 fun v2 => gI 1 4 M p0 fun v3 => sI M a1 ((v2 + v3) &&& (3 : Int32)) p1 fun M4 => gI 1 4 M4 p0 fun v5 => pI 1 4 M4 p0 (v5 + (1 : Int32)) fun M6 => some M6
-- 96: PipelineSimulator$Channel.closeOpen()V
def f_ch_closeOpen (p0 : Nat) (M : Mem) : Option (Mem) :=
  gI 1 5 M p0 fun v1 => ck M p0 1 <| cV (f_ch_enqueue p0 v1 M) fun M2 => pI 1 5 M2 p0 (0 : Int32) fun M3 => pI 1 6 M3 p0 (0 : Int32) fun M4 => some M4
-- 97: PipelineSimulator$Channel.growOlder()V
def f_ch_growOlder (p0 : Nat) (M : Mem) : Option (Mem) :=
  gI 1 5 M p0 fun v1 => if v1 = (0 : Int32) then (some M) else gI 1 6 M p0 fun v2 => pI 1 6 M p0 (v2 + (1 : Int32)) fun M3 => gI 1 6 M3 p0 fun v4 => gA 1 0 M3 p0 fun a5 => gI 10 1 M3 a5 fun v6 => if v4 < v6 then (some M3) else ck M3 p0 1 <| cI (f_ch_hasRoom p0 M3) fun v8 M7 => if v8 = (0 : Int32) then (some M7) else ck M7 p0 1 <| cV (f_ch_closeOpen p0 M7) fun M9 => some M9
-- 98: PipelineSimulator$Operator.isKeyed()Z
def f_op_isKeyed (p0 : Nat) (M : Mem) : Option (Int32 × Mem) :=
  gI 6 6 M p0 fun v1 => if v1 = (4 : Int32) then (some ((1 : Int32), M)) else gI 6 6 M p0 fun v2 => if v2 = (5 : Int32) then (some ((1 : Int32), M)) else gI 6 6 M p0 fun v3 => if v3 = (6 : Int32) then (some ((1 : Int32), M)) else gI 6 6 M p0 fun v4 => if v4 = (8 : Int32) then (some ((1 : Int32), M)) else some ((0 : Int32), M)
-- 99: PipelineSimulator$Records.keyAt(I)I
def f_rc_keyAt (p0 : Nat) (p1 : Int32) (M : Mem) : Option (Int32 × Mem) :=
  gA 9 0 M p0 fun a1 => gI 9 4 M p0 fun v2 => gI 9 3 M p0 fun v3 => aI M a1 ((v2 + p1) &&& v3) fun v4 => some (v4, M)
-- 100: PipelineSimulator$Operator.ownerOf(II)I
def f_op_ownerOf (p0 : Nat) (p1 : Int32) (p2 : Int32) (M : Mem) : Option (Int32 × Mem) :=
  dvI ((p1 &&& (7 : Int32)) * p2) (8 : Int32) fun v1 => some (v1, M)
-- 101: java/lang/Math.floorMod(II)I
def f_ma_floorMod (p0 : Int32) (p1 : Int32) (M : Mem) : Option (Int32 × Mem) :=
  rmI p0 p1 fun v1 => if (0 : Int32) ≤ (p0 ^^^ p1) then (some (v1, M)) else if v1 = (0 : Int32) then (some (v1, M)) else some ((v1 + p1), M)
-- 102: PipelineSimulator$Simulation.targetOf(ILPipelineSimulator$Instance;)I
def f_sm_targetOf (p0 : Nat) (p1 : Int32) (p2 : Nat) (M : Mem) : Option (Int32 × Mem) :=
  ck M p0 11 <| cR (f_sm_operatorAt p0 (p1 + (1 : Int32)) M) fun o2 M1 => onR o2 (some ((-1 : Int32), M1)) (fun a3 => gI 6 9 M1 a3 fun v4 => if v4 ≤ (0 : Int32) then (some ((-1 : Int32), M1)) else gA 3 0 M1 p2 fun a5 => gI 9 5 M1 a5 fun v6 => if v6 = (0 : Int32) then (some ((-1 : Int32), M1)) else ck M1 a3 6 <| cI (f_op_isKeyed a3 M1) fun v8 M7 => if v8 = (0 : Int32) then (gI 3 4 M7 p2 fun v9 => gI 6 9 M7 a3 fun v10 => cI (f_ma_floorMod v9 v10 M7) fun v12 M11 => some (v12, M11)) else gA 3 0 M7 p2 fun a13 => ck M7 a13 9 <| cI (f_rc_keyAt a13 (0 : Int32) M7) fun v15 M14 => gI 6 9 M14 a3 fun v16 => ck M14 a3 6 <| cI (f_op_ownerOf a3 v15 v16 M14) fun v18 M17 => some (v18, M17))
-- 103: PipelineSimulator$Simulation.channelAt(III)LPipelineSimulator$Channel;
def f_sm_channelAt (p0 : Nat) (p1 : Int32) (p2 : Int32) (p3 : Int32) (M : Mem) : Option (Option Nat × Mem) :=
  ck M p0 11 <| cR (f_sm_operatorAt p0 p1 M) fun o2 M1 => onR o2 (ck M1 p0 11 <| cR (f_sm_operatorAt p0 (p1 + (1 : Int32)) M1) fun o5 M4 => onR o5 (some (none, M4)) (fun a6 => some (none, M4))) (fun a3 => ck M1 p0 11 <| cR (f_sm_operatorAt p0 (p1 + (1 : Int32)) M1) fun o8 M7 => onR o8 (some (none, M7)) (fun a9 => if p2 < (0 : Int32) then (some (none, M7)) else gI 6 9 M7 a3 fun v10 => if v10 ≤ p2 then (some (none, M7)) else if p3 < (0 : Int32) then (some (none, M7)) else gI 6 9 M7 a9 fun v11 => if p3 < v11 then (if ((((p1 * (3 : Int32)) + p2) * (3 : Int32)) + p3) < (0 : Int32) then (some (none, M7)) else gA 11 3 M7 p0 fun a12 => aN M7 a12 fun v13 => if ((((p1 * (3 : Int32)) + p2) * (3 : Int32)) + p3) < v13 then (gA 11 3 M7 p0 fun a14 => aA M7 a14 ((((p1 * (3 : Int32)) + p2) * (3 : Int32)) + p3) fun a15 => some (some a15, M7)) else some (none, M7)) else some (none, M7)))
-- 104: PipelineSimulator$Channel.takesRecord()Z
def f_ch_takesRecord (p0 : Nat) (M : Mem) : Option (Int32 × Mem) :=
  gI 1 5 M p0 fun v1 => gA 1 0 M p0 fun a2 => gI 10 0 M a2 fun v3 => if v1 < v3 then (some ((1 : Int32), M)) else ck M p0 1 <| cI (f_ch_hasRoom p0 M) fun v5 M4 => if v5 = (0 : Int32) then (some ((0 : Int32), M4)) else some ((1 : Int32), M4)
-- 105: PipelineSimulator$Records.valueAt(I)I
def f_rc_valueAt (p0 : Nat) (p1 : Int32) (M : Mem) : Option (Int32 × Mem) :=
  gA 9 1 M p0 fun a1 => gI 9 4 M p0 fun v2 => gI 9 3 M p0 fun v3 => aI M a1 ((v2 + p1) &&& v3) fun v4 => some (v4, M)
-- 106: PipelineSimulator$Records.birthAt(I)I
def f_rc_birthAt (p0 : Nat) (p1 : Int32) (M : Mem) : Option (Int32 × Mem) :=
  gA 9 2 M p0 fun a1 => gI 9 4 M p0 fun v2 => gI 9 3 M p0 fun v3 => aI M a1 ((v2 + p1) &&& v3) fun v4 => some (v4, M)
-- 107: PipelineSimulator$Channel.putRecord(III)V
def f_ch_putRecord_18 (l0 : Nat) (l1 : Int32) (l2 : Int32) (l3 : Int32) (M : Mem) : Option (Mem) :=
  gA 1 1 M l0 fun a1 => ck M a1 9 <| cV (f_rc_add a1 l1 l2 l3 M) fun M2 => gI 1 5 M2 l0 fun v3 => pI 1 5 M2 l0 (v3 + (1 : Int32)) fun M4 => gI 1 5 M4 l0 fun v5 => gA 1 0 M4 l0 fun a6 => gI 10 0 M4 a6 fun v7 => if v5 < v7 then (some M4) else ck M4 l0 1 <| cI (f_ch_hasRoom l0 M4) fun v9 M8 => if v9 = (0 : Int32) then (some M8) else ck M8 l0 1 <| cV (f_ch_closeOpen l0 M8) fun M10 => some M10
def f_ch_putRecord (p0 : Nat) (p1 : Int32) (p2 : Int32) (p3 : Int32) (M : Mem) : Option (Mem) :=
  gI 1 5 M p0 fun v1 => gA 1 0 M p0 fun a2 => gI 10 0 M a2 fun v3 => if v1 < v3 then (f_ch_putRecord_18 p0 p1 p2 p3 M) else ck M p0 1 <| cV (f_ch_closeOpen p0 M) fun M4 => f_ch_putRecord_18 p0 p1 p2 p3 M4
-- 108: PipelineSimulator$Records.removeFirst()V
def f_rc_removeFirst (p0 : Nat) (M : Mem) : Option (Mem) :=
  gI 9 5 M p0 fun v1 => if v1 ≤ (0 : Int32) then (some M) else gI 9 4 M p0 fun v2 => gI 9 3 M p0 fun v3 => pI 9 4 M p0 ((v2 + (1 : Int32)) &&& v3) fun M4 => gI 9 5 M4 p0 fun v5 => pI 9 5 M4 p0 (v5 - (1 : Int32)) fun M6 => some M6
-- 109: PipelineSimulator$Simulation.sendList(IILPipelineSimulator$Instance;)Z
def f_sm_sendList_112 (k16 : Nat → Int32 → Int32 → Nat → Nat → Int32 → Int32 → Mem → Option (Int32 × Mem)) (l0 : Nat) (l1 : Int32) (l2 : Int32) (l3 : Nat) (l4 : Nat) (l5 : Int32) (l6 : Int32) (M : Mem) : Option (Int32 × Mem) :=
  k16 l0 l1 l2 l3 l4 l5 (l6 + (1 : Int32)) M
def f_sm_sendList_16 : Nat → Nat → Int32 → Int32 → Nat → Nat → Int32 → Int32 → Mem → Option (Int32 × Mem)
  | 0, _, _, _, _, _, _, _, _ => none
  | n + 1, l0, l1, l2, l3, l4, l5, l6, M => if l5 ≤ l6 then (some ((1 : Int32), M)) else ck M l0 11 <| cR (f_sm_operatorAt l0 (l1 + (1 : Int32)) M) fun o2 M1 => onR o2 (ck M1 l0 11 <| cI (f_sm_targetOf l0 l1 l3 M1) fun v5 M4 => ck M4 l0 11 <| cR (f_sm_channelAt l0 l1 l2 v5 M4) fun o7 M6 => onR o7 (some ((0 : Int32), M6)) (fun a8 => some ((0 : Int32), M6))) (fun a3 => ck M1 l0 11 <| cI (f_sm_targetOf l0 l1 l3 M1) fun v10 M9 => ck M9 l0 11 <| cR (f_sm_channelAt l0 l1 l2 v10 M9) fun o12 M11 => onR o12 (some ((0 : Int32), M11)) (fun a13 => ck M11 a13 1 <| cI (f_ch_takesRecord a13 M11) fun v15 M14 => if v15 = (0 : Int32) then (some ((0 : Int32), M14)) else ck M14 l4 9 <| cI (f_rc_keyAt l4 (0 : Int32) M14) fun v17 M16 => ck M16 l4 9 <| cI (f_rc_valueAt l4 (0 : Int32) M16) fun v19 M18 => ck M18 l4 9 <| cI (f_rc_birthAt l4 (0 : Int32) M18) fun v21 M20 => ck M20 a13 1 <| cV (f_ch_putRecord a13 v17 v19 v21 M20) fun M22 => ck M22 l4 9 <| cV (f_rc_removeFirst l4 M22) fun M23 => ck M23 a3 6 <| cI (f_op_isKeyed a3 M23) fun v25 M24 => if v25 = (0 : Int32) then (gI 3 4 M24 l3 fun v26 => pI 3 4 M24 l3 (v26 + (1 : Int32)) fun M27 => f_sm_sendList_112 (f_sm_sendList_16 n) l0 l1 l2 l3 l4 l5 l6 M27) else f_sm_sendList_112 (f_sm_sendList_16 n) l0 l1 l2 l3 l4 l5 l6 M24))
def f_sm_sendList (p0 : Nat) (p1 : Int32) (p2 : Int32) (p3 : Nat) (M : Mem) : Option (Int32 × Mem) :=
  gA 3 0 M p3 fun a1 => gI 9 5 M a1 fun v2 => f_sm_sendList_16 FU p0 p1 p2 p3 a1 v2 (0 : Int32) M
-- 110: PipelineSimulator$Channel.takesBarrier()Z
def f_ch_takesBarrier_12 (l0 : Nat) (s0 : Int32) (M : Mem) : Option (Int32 × Mem) :=
  gI 1 4 M l0 fun v1 => gA 1 0 M l0 fun a2 => gI 10 2 M a2 fun v3 => if v3 < (v1 + s0) then (some ((0 : Int32), M)) else some ((1 : Int32), M)
def f_ch_takesBarrier (p0 : Nat) (M : Mem) : Option (Int32 × Mem) :=
  gI 1 5 M p0 fun v1 => if v1 ≤ (0 : Int32) then (f_ch_takesBarrier_12 p0 (1 : Int32) M) else f_ch_takesBarrier_12 p0 (2 : Int32) M
-- 111: PipelineSimulator$Simulation.targetWithoutRoom(II)I
def f_sm_targetWithoutRoom_37 (k2 : Nat → Int32 → Int32 → Int32 → Mem → Option (Int32 × Mem)) (l0 : Nat) (l1 : Int32) (l2 : Int32) (l3 : Int32) (M : Mem) : Option (Int32 × Mem) :=
  k2 l0 l1 l2 (l3 + (1 : Int32)) M
def f_sm_targetWithoutRoom_2 : Nat → Nat → Int32 → Int32 → Int32 → Mem → Option (Int32 × Mem)
  | 0, _, _, _, _, _ => none
  | n + 1, l0, l1, l2, l3, M => ck M l0 11 <| cI (f_sm_sizeOf l0 (l1 + (1 : Int32)) M) fun v2 M1 => if v2 ≤ l3 then (some ((-1 : Int32), M1)) else ck M1 l0 11 <| cR (f_sm_channelAt l0 l1 l2 l3 M1) fun o4 M3 => onR o4 (f_sm_targetWithoutRoom_37 (f_sm_targetWithoutRoom_2 n) l0 l1 l2 l3 M3) (fun a5 => ck M3 a5 1 <| cI (f_ch_takesBarrier a5 M3) fun v7 M6 => if v7 = (0 : Int32) then (some (l3, M6)) else f_sm_targetWithoutRoom_37 (f_sm_targetWithoutRoom_2 n) l0 l1 l2 l3 M6)
def f_sm_targetWithoutRoom (p0 : Nat) (p1 : Int32) (p2 : Int32) (M : Mem) : Option (Int32 × Mem) :=
  f_sm_targetWithoutRoom_2 FU p0 p1 p2 (0 : Int32) M
-- 112: PipelineSimulator$Channel.putBarrier()V
def f_ch_putBarrier_11 (l0 : Nat) (M : Mem) : Option (Mem) :=
  ck M l0 1 <| cV (f_ch_enqueue l0 (-1 : Int32) M) fun M1 => some M1
def f_ch_putBarrier (p0 : Nat) (M : Mem) : Option (Mem) :=
  gI 1 5 M p0 fun v1 => if v1 ≤ (0 : Int32) then (f_ch_putBarrier_11 p0 M) else ck M p0 1 <| cV (f_ch_closeOpen p0 M) fun M2 => f_ch_putBarrier_11 p0 M2
-- 113: PipelineSimulator$Simulation.sendBarrier(IILPipelineSimulator$Instance;)Z
def f_sm_sendBarrier_55 (k23 : Nat → Int32 → Int32 → Nat → Int32 → Mem → Option (Int32 × Mem)) (l0 : Nat) (l1 : Int32) (l2 : Int32) (l3 : Nat) (l4 : Int32) (M : Mem) : Option (Int32 × Mem) :=
  k23 l0 l1 l2 l3 (l4 + (1 : Int32)) M
def f_sm_sendBarrier_23 : Nat → Nat → Int32 → Int32 → Nat → Int32 → Mem → Option (Int32 × Mem)
  | 0, _, _, _, _, _, _ => none
  | n + 1, l0, l1, l2, l3, l4, M => ck M l0 11 <| cI (f_sm_sizeOf l0 (l1 + (1 : Int32)) M) fun v2 M1 => if v2 ≤ l4 then (pZ 3 1 M1 l3 (0 : Int32) fun M3 => some ((1 : Int32), M3)) else ck M1 l0 11 <| cR (f_sm_channelAt l0 l1 l2 l4 M1) fun o5 M4 => onR o5 (f_sm_sendBarrier_55 (f_sm_sendBarrier_23 n) l0 l1 l2 l3 l4 M4) (fun a6 => ck M4 a6 1 <| cV (f_ch_putBarrier a6 M4) fun M7 => f_sm_sendBarrier_55 (f_sm_sendBarrier_23 n) l0 l1 l2 l3 l4 M7)
def f_sm_sendBarrier (p0 : Nat) (p1 : Int32) (p2 : Int32) (p3 : Nat) (M : Mem) : Option (Int32 × Mem) :=
  gI 3 1 M p3 fun v1 => if v1 = (0 : Int32) then (some ((1 : Int32), M)) else ck M p0 11 <| cI (f_sm_targetWithoutRoom p0 p1 p2 M) fun v3 M2 => if v3 < (0 : Int32) then (f_sm_sendBarrier_23 FU p0 p1 p2 p3 (0 : Int32) M2) else some ((0 : Int32), M2)
-- 114: PipelineSimulator$Simulation.takeInput(LPipelineSimulator$Operator;LPipelineSimulator$Instance;)Z
def f_sm_takeInput (p0 : Nat) (p1 : Nat) (p2 : Nat) (M : Mem) : Option (Int32 × Mem) :=
  gI 11 6 M p0 fun v1 => gA 11 1 M p0 fun a2 => gI 9 5 M a2 fun v3 => if v1 < v3 then (gA 3 0 M p2 fun a4 => gA 11 1 M p0 fun a5 => gI 11 6 M p0 fun v6 => ck M a5 9 <| cI (f_rc_keyAt a5 v6 M) fun v8 M7 => gA 11 1 M7 p0 fun a9 => gI 11 6 M7 p0 fun v10 => ck M7 a9 9 <| cI (f_rc_valueAt a9 v10 M7) fun v12 M11 => gI 11 9 M11 p0 fun v13 => ck M11 a4 9 <| cV (f_rc_add a4 v8 v12 v13 M11) fun M14 => gI 11 6 M14 p0 fun v15 => pI 11 6 M14 p0 (v15 + (1 : Int32)) fun M16 => gI 6 10 M16 p1 fun v17 => pI 6 10 M16 p1 (v17 + (1 : Int32)) fun M18 => gI 6 11 M18 p1 fun v19 => pI 6 11 M18 p1 (v19 + (1 : Int32)) fun M20 => some ((1 : Int32), M20)) else some ((0 : Int32), M)
-- 115: PipelineSimulator$Channel.hasItem()Z
def f_ch_hasItem (p0 : Nat) (M : Mem) : Option (Int32 × Mem) :=
  gI 1 4 M p0 fun v1 => if v1 ≤ (0 : Int32) then (some ((0 : Int32), M)) else some ((1 : Int32), M)
-- 116: PipelineSimulator$Simulation.inputToTake(II)I
def f_sm_inputToTake_103 (k30 : Nat → Int32 → Int32 → Nat → Int32 → Int32 → Mem → Option (Int32 × Mem)) (l0 : Nat) (l1 : Int32) (l2 : Int32) (l3 : Nat) (l4 : Int32) (l5 : Int32) (M : Mem) : Option (Int32 × Mem) :=
  k30 l0 l1 l2 l3 l4 (l5 + (1 : Int32)) M
def f_sm_inputToTake_80 (k30 : Nat → Int32 → Int32 → Nat → Int32 → Int32 → Mem → Option (Int32 × Mem)) (l0 : Nat) (l1 : Int32) (l2 : Int32) (l3 : Nat) (l4 : Int32) (l5 : Int32) (l6 : Int32) (l7 : Option Nat) (s0 : Int32) (M : Mem) : Option (Int32 × Mem) :=
  onR l7 (f_sm_inputToTake_103 k30 l0 l1 l2 l3 l4 l5 M) (fun a1 => if s0 = (0 : Int32) then (ck M a1 1 <| cI (f_ch_hasItem a1 M) fun v3 M2 => if v3 = (0 : Int32) then (f_sm_inputToTake_103 k30 l0 l1 l2 l3 l4 l5 M2) else some (l6, M2)) else f_sm_inputToTake_103 k30 l0 l1 l2 l3 l4 l5 M)
def f_sm_inputToTake_30 : Nat → Nat → Int32 → Int32 → Nat → Int32 → Int32 → Mem → Option (Int32 × Mem)
  | 0, _, _, _, _, _, _, _ => none
  | n + 1, l0, l1, l2, l3, l4, l5, M => if l4 ≤ l5 then (some ((-1 : Int32), M)) else gI 3 3 M l3 fun v1 => cI (f_ma_floorMod (v1 + l5) l4 M) fun v3 M2 => ck M2 l0 11 <| cR (f_sm_channelAt l0 (l1 - (1 : Int32)) v3 l2 M2) fun o5 M4 => onR o5 (gI 3 2 M4 l3 fun v7 => if ((v7 >>> (v3 &&& 31)) &&& (1 : Int32)) = (0 : Int32) then (f_sm_inputToTake_80 (f_sm_inputToTake_30 n) l0 l1 l2 l3 l4 l5 v3 none (0 : Int32) M4) else f_sm_inputToTake_80 (f_sm_inputToTake_30 n) l0 l1 l2 l3 l4 l5 v3 none (1 : Int32) M4) (fun a6 => gI 3 2 M4 l3 fun v8 => if ((v8 >>> (v3 &&& 31)) &&& (1 : Int32)) = (0 : Int32) then (f_sm_inputToTake_80 (f_sm_inputToTake_30 n) l0 l1 l2 l3 l4 l5 v3 (some a6) (0 : Int32) M4) else f_sm_inputToTake_80 (f_sm_inputToTake_30 n) l0 l1 l2 l3 l4 l5 v3 (some a6) (1 : Int32) M4)
def f_sm_inputToTake (p0 : Nat) (p1 : Int32) (p2 : Int32) (M : Mem) : Option (Int32 × Mem) :=
  ck M p0 11 <| cR (f_sm_instanceAt p0 p1 p2 M) fun o2 M1 => onR o2 (ck M1 p0 11 <| cI (f_sm_sizeOf p0 (p1 - (1 : Int32)) M1) fun v5 M4 => some ((-1 : Int32), M4)) (fun a3 => ck M1 p0 11 <| cI (f_sm_sizeOf p0 (p1 - (1 : Int32)) M1) fun v7 M6 => if (0 : Int32) < v7 then (f_sm_inputToTake_30 FU p0 p1 p2 a3 v7 (0 : Int32) M6) else some ((-1 : Int32), M6))
-- 117: PipelineSimulator$Channel.startsWithBarrier()Z
def f_ch_startsWithBarrier (p0 : Nat) (M : Mem) : Option (Int32 × Mem) :=
  gI 1 4 M p0 fun v1 => if v1 ≤ (0 : Int32) then (some ((0 : Int32), M)) else gA 1 2 M p0 fun a2 => gI 1 3 M p0 fun v3 => aI M a2 (v3 &&& (3 : Int32)) fun v4 => if v4 = (-1 : Int32) then (some ((1 : Int32), M)) else some ((0 : Int32), M)
-- 118: PipelineSimulator$Channel.removeItem()V
def f_ch_removeItem_52 (l0 : Nat) (M : Mem) : Option (Mem) :=
  gI 1 3 M l0 fun v1 => pI 1 3 M l0 ((v1 + (1 : Int32)) &&& (3 : Int32)) fun M2 => gI 1 4 M2 l0 fun v3 => pI 1 4 M2 l0 (v3 - (1 : Int32)) fun M4 => some M4
def f_ch_removeItem (p0 : Nat) (M : Mem) : Option (Mem) :=
  gI 1 4 M p0 fun v1 => if (0 : Int32) < v1 then (gI 1 3 M p0 fun v2 => gA 1 2 M p0 fun a3 => aI M a3 (v2 &&& (3 : Int32)) fun v4 => if v4 = (-1 : Int32) then (f_ch_removeItem_52 p0 M) else gA 1 1 M p0 fun a5 => ck M a5 9 <| cV (f_rc_removeFirst a5 M) fun M6 => gA 1 2 M6 p0 fun a7 => aI M6 a7 (v2 &&& (3 : Int32)) fun v8 => sI M6 a7 (v2 &&& (3 : Int32)) (v8 - (1 : Int32)) fun M9 => gA 1 2 M9 p0 fun a10 => aI M9 a10 (v2 &&& (3 : Int32)) fun v11 => if v11 ≤ (0 : Int32) then (f_ch_removeItem_52 p0 M9) else some M9) else some M
-- 119: PipelineSimulator$Keyed.copyKey(LPipelineSimulator$Keyed;I)V
def f_ky_copyKey (p0 : Nat) (p1 : Nat) (p2 : Int32) (M : Mem) : Option (Mem) :=
  gA 4 0 M p0 fun a1 => gA 4 0 M p1 fun a2 => aI M a2 (p2 &&& (15 : Int32)) fun v3 => sI M a1 (p2 &&& (15 : Int32)) v3 fun M4 => gA 4 1 M4 p0 fun a5 => gA 4 1 M4 p1 fun a6 => aI M4 a6 (p2 &&& (15 : Int32)) fun v7 => sI M4 a5 (p2 &&& (15 : Int32)) v7 fun M8 => gI 4 2 M8 p0 fun v9 => gI 4 2 M8 p1 fun v10 => pI 4 2 M8 p0 ((v9 &&& (((1 : Int32) <<< ((p2 &&& (15 : Int32)) &&& 31)) ^^^ (-1 : Int32))) ||| (v10 &&& ((1 : Int32) <<< ((p2 &&& (15 : Int32)) &&& 31)))) fun M11 => some M11
-- 120: PipelineSimulator$Operator.savePending(I)V
def f_op_savePending_33 (k2 : Nat → Int32 → Int32 → Mem → Option (Mem)) (l0 : Nat) (l1 : Int32) (l2 : Int32) (M : Mem) : Option (Mem) :=
  k2 l0 l1 (l2 + (1 : Int32)) M
def f_op_savePending_2 : Nat → Nat → Int32 → Int32 → Mem → Option (Mem)
  | 0, _, _, _, _ => none
  | n + 1, l0, l1, l2, M => if (16 : Int32) ≤ l2 then (some M) else gI 6 9 M l0 fun v1 => ck M l0 6 <| cI (f_op_ownerOf l0 l2 v1 M) fun v3 M2 => if v3 = l1 then (gA 6 2 M2 l0 fun a4 => gA 6 1 M2 l0 fun a5 => ck M2 a4 4 <| cV (f_ky_copyKey a4 a5 l2 M2) fun M6 => f_op_savePending_33 (f_op_savePending_2 n) l0 l1 l2 M6) else f_op_savePending_33 (f_op_savePending_2 n) l0 l1 l2 M2
def f_op_savePending (p0 : Nat) (p1 : Int32) (M : Mem) : Option (Mem) :=
  f_op_savePending_2 FU p0 p1 (0 : Int32) M
-- 121: PipelineSimulator$Simulation.saveInstance(ILPipelineSimulator$Operator;LPipelineSimulator$Instance;)V
def f_sm_saveInstance (p0 : Nat) (p1 : Int32) (p2 : Nat) (p3 : Nat) (M : Mem) : Option (Mem) :=
  pI 3 2 M p3 (0 : Int32) fun M1 => gI 3 4 M1 p3 fun v2 => pI 3 5 M1 p3 v2 fun M3 => ck M3 p2 6 <| cV (f_op_savePending p2 p1 M3) fun M4 => gI 6 6 M4 p2 fun v5 => if v5 = (8 : Int32) then (gI 11 13 M4 p0 fun v7 => pI 11 13 M4 p0 (v7 - (1 : Int32)) fun M8 => some M8) else pZ 3 1 M4 p3 (1 : Int32) fun M6 => some M6
