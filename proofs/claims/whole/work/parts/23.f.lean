/-! METHODS 150 to 199 as functions -/
-- 150: PipelineSimulatorModel.putsBarrier(I)V
def f_m_putsBarrier_14 (l0 : Nat) (l1 : Int32) (M : Mem) : Option (Mem) :=
  gA 13 53 M l0 fun a1 => gA 13 51 M l0 fun a2 => aI M a2 l1 fun v3 => sI M a1 (((4 : Int32) * l1) + v3) (-1 : Int32) fun M4 => gA 13 51 M4 l0 fun a5 => aI M4 a5 l1 fun v6 => sI M4 a5 l1 (v6 + (1 : Int32)) fun M7 => some M7
def f_m_putsBarrier (p0 : Nat) (p1 : Int32) (M : Mem) : Option (Mem) :=
  gA 13 46 M p0 fun a1 => aI M a1 p1 fun v2 => if v2 ≤ (0 : Int32) then (f_m_putsBarrier_14 p0 p1 M) else ck M p0 13 <| cV (f_m_closes p0 p1 M) fun M3 => f_m_putsBarrier_14 p0 p1 M3
-- 151: PipelineSimulatorModel.sends(II)Z
def f_m_sends_229 : Nat → Nat → Int32 → Int32 → Int32 → Int32 → Mem → Option (Int32 × Mem)
  | 0, _, _, _, _, _, _ => none
  | n + 1, l0, l1, l2, l3, l4, M => gA 13 6 M l0 fun a1 => aI M a1 (l1 + (1 : Int32)) fun v2 => if v2 ≤ l4 then (gA 13 45 M l0 fun a3 => sB M a3 l3 (0 : Int32) fun M4 => some ((1 : Int32), M4)) else cI (f_m_line l1 l2 l4 M) fun v6 M5 => ck M5 l0 13 <| cV (f_m_putsBarrier l0 v6 M5) fun M7 => f_m_sends_229 n l0 l1 l2 l3 (l4 + (1 : Int32)) M7
def f_m_sends_112 (k6 : Nat → Int32 → Int32 → Int32 → Mem → Option (Int32 × Mem)) : Nat → Nat → Int32 → Int32 → Int32 → Int32 → Mem → Option (Int32 × Mem)
  | 0, _, _, _, _, _, _ => none
  | n + 1, l0, l1, l2, l3, l6, M => gA 13 39 M l0 fun a1 => aI M a1 l3 fun v2 => if v2 ≤ l6 then (k6 l0 l1 l2 l3 M) else gA 13 40 M l0 fun a3 => gA 13 40 M l0 fun a4 => aI M a4 ((((3 : Int32) * l3) + l6) + (1 : Int32)) fun v5 => sI M a3 (((3 : Int32) * l3) + l6) v5 fun M6 => gA 13 41 M6 l0 fun a7 => gA 13 41 M6 l0 fun a8 => aI M6 a8 ((((3 : Int32) * l3) + l6) + (1 : Int32)) fun v9 => sI M6 a7 (((3 : Int32) * l3) + l6) v9 fun M10 => gA 13 42 M10 l0 fun a11 => gA 13 42 M10 l0 fun a12 => aI M10 a12 ((((3 : Int32) * l3) + l6) + (1 : Int32)) fun v13 => sI M10 a11 (((3 : Int32) * l3) + l6) v13 fun M14 => f_m_sends_112 k6 n l0 l1 l2 l3 (l6 + (1 : Int32)) M14
def f_m_sends_97 (k6 : Nat → Int32 → Int32 → Int32 → Mem → Option (Int32 × Mem)) (l0 : Nat) (l1 : Int32) (l2 : Int32) (l3 : Int32) (s0 : Int32) (s1 : Int32) (s2 : Int32) (s3 : Nat) (M : Mem) : Option (Int32 × Mem) :=
  sI M s3 s2 (s1 + s0) fun M1 => gA 13 39 M1 l0 fun a2 => aI M1 a2 l3 fun v3 => sI M1 a2 l3 (v3 - (1 : Int32)) fun M4 => f_m_sends_112 k6 FU l0 l1 l2 l3 (0 : Int32) M4
def f_m_sends_6 : Nat → Nat → Int32 → Int32 → Int32 → Mem → Option (Int32 × Mem)
  | 0, _, _, _, _, _ => none
  | n + 1, l0, l1, l2, l3, M => gA 13 39 M l0 fun a1 => aI M a1 l3 fun v2 => if v2 ≤ (0 : Int32) then (gA 13 45 M l0 fun a3 => aB M a3 l3 fun v4 => if v4 = (0 : Int32) then (some ((1 : Int32), M)) else ck M l0 13 <| cI (f_m_refusing l0 l1 l2 M) fun v6 M5 => if v6 < (0 : Int32) then (f_m_sends_229 FU l0 l1 l2 l3 (0 : Int32) M5) else some ((0 : Int32), M5)) else gA 13 40 M l0 fun a7 => aI M a7 ((3 : Int32) * l3) fun v8 => ck M l0 13 <| cI (f_m_goal l0 l1 l2 v8 M) fun v10 M9 => cI (f_m_line l1 l2 v10 M9) fun v12 M11 => ck M11 l0 13 <| cI (f_m_takesRecord l0 v12 M11) fun v14 M13 => if v14 = (0 : Int32) then (some ((0 : Int32), M13)) else gA 13 41 M13 l0 fun a15 => aI M13 a15 ((3 : Int32) * l3) fun v16 => gA 13 42 M13 l0 fun a17 => aI M13 a17 ((3 : Int32) * l3) fun v18 => ck M13 l0 13 <| cV (f_m_puts l0 v12 v8 v16 v18 M13) fun M19 => gA 13 33 M19 l0 fun a20 => aI M19 a20 l3 fun v21 => ck M19 l0 13 <| cI (f_m_isKeyed l0 (l1 + (1 : Int32)) M19) fun v23 M22 => if v23 = (0 : Int32) then (f_m_sends_97 (f_m_sends_6 n) l0 l1 l2 l3 (1 : Int32) v21 l3 a20 M22) else f_m_sends_97 (f_m_sends_6 n) l0 l1 l2 l3 (0 : Int32) v21 l3 a20 M22
def f_m_sends (p0 : Nat) (p1 : Int32) (p2 : Int32) (M : Mem) : Option (Int32 × Mem) :=
  cI (f_m_spot p1 p2 M) fun v2 M1 => f_m_sends_6 FU p0 p1 p2 v2 M1
-- 152: PipelineSimulatorModel.emits(IIIII)V
def f_m_emits (p0 : Nat) (p1 : Int32) (p2 : Int32) (p3 : Int32) (p4 : Int32) (p5 : Int32) (M : Mem) : Option (Mem) :=
  cI (f_m_spot p1 p2 M) fun v2 M1 => gA 13 40 M1 p0 fun a3 => gA 13 39 M1 p0 fun a4 => aI M1 a4 v2 fun v5 => sI M1 a3 (((3 : Int32) * v2) + v5) p3 fun M6 => gA 13 41 M6 p0 fun a7 => gA 13 39 M6 p0 fun a8 => aI M6 a8 v2 fun v9 => sI M6 a7 (((3 : Int32) * v2) + v9) p4 fun M10 => gA 13 42 M10 p0 fun a11 => gA 13 39 M10 p0 fun a12 => aI M10 a12 v2 fun v13 => sI M10 a11 (((3 : Int32) * v2) + v13) p5 fun M14 => gA 13 39 M14 p0 fun a15 => aI M14 a15 v2 fun v16 => sI M14 a15 v2 (v16 + (1 : Int32)) fun M17 => gA 13 21 M17 p0 fun a18 => aI M17 a18 p1 fun v19 => sI M17 a18 p1 (v19 + (1 : Int32)) fun M20 => some M20
-- 153: PipelineSimulatorModel.ready(II)I
def f_m_ready_76 (k9 : Nat → Int32 → Int32 → Int32 → Int32 → Mem → Option (Int32 × Mem)) (l0 : Nat) (l1 : Int32) (l2 : Int32) (l3 : Int32) (l4 : Int32) (M : Mem) : Option (Int32 × Mem) :=
  k9 l0 l1 l2 l3 (l4 + (1 : Int32)) M
def f_m_ready_9 : Nat → Nat → Int32 → Int32 → Int32 → Int32 → Mem → Option (Int32 × Mem)
  | 0, _, _, _, _, _, _ => none
  | n + 1, l0, l1, l2, l3, l4, M => gA 13 6 M l0 fun a1 => aI M a1 (l1 - (1 : Int32)) fun v2 => if v2 ≤ l4 then (some ((-1 : Int32), M)) else gA 13 44 M l0 fun a3 => aI M a3 l3 fun v4 => gA 13 6 M l0 fun a5 => aI M a5 (l1 - (1 : Int32)) fun v6 => rmI (v4 + l4) v6 fun v7 => gA 13 43 M l0 fun a8 => aI M a8 l3 fun v9 => if ((v9 >>> (v7 &&& 31)) &&& (1 : Int32)) = (0 : Int32) then (gA 13 51 M l0 fun a10 => cI (f_m_line (l1 - (1 : Int32)) v7 l2 M) fun v12 M11 => aI M11 a10 v12 fun v13 => if v13 ≤ (0 : Int32) then (f_m_ready_76 (f_m_ready_9 n) l0 l1 l2 l3 l4 M11) else some (v7, M11)) else f_m_ready_76 (f_m_ready_9 n) l0 l1 l2 l3 l4 M
def f_m_ready (p0 : Nat) (p1 : Int32) (p2 : Int32) (M : Mem) : Option (Int32 × Mem) :=
  cI (f_m_spot p1 p2 M) fun v2 M1 => f_m_ready_9 FU p0 p1 p2 v2 (0 : Int32) M1
-- 154: PipelineSimulatorModel.pops(I)V
def f_m_pops_36 (k4 : Nat → Int32 → Int32 → Mem → Option (Mem)) : Nat → Nat → Int32 → Int32 → Int32 → Mem → Option (Mem)
  | 0, _, _, _, _, _ => none
  | n + 1, l0, l1, l2, l3, M => if (4 : Int32) ≤ l3 then (k4 l0 l1 (l2 + (1 : Int32)) M) else gA 13 54 M l0 fun a1 => gA 13 54 M l0 fun a2 => aI M a2 (((4 : Int32) * (l2 + (1 : Int32))) + l3) fun v3 => sI M a1 (((4 : Int32) * l2) + l3) v3 fun M4 => gA 13 55 M4 l0 fun a5 => gA 13 55 M4 l0 fun a6 => aI M4 a6 (((4 : Int32) * (l2 + (1 : Int32))) + l3) fun v7 => sI M4 a5 (((4 : Int32) * l2) + l3) v7 fun M8 => gA 13 56 M8 l0 fun a9 => gA 13 56 M8 l0 fun a10 => aI M8 a10 (((4 : Int32) * (l2 + (1 : Int32))) + l3) fun v11 => sI M8 a9 (((4 : Int32) * l2) + l3) v11 fun M12 => f_m_pops_36 k4 n l0 l1 l2 (l3 + (1 : Int32)) M12
def f_m_pops_4 : Nat → Nat → Int32 → Int32 → Mem → Option (Mem)
  | 0, _, _, _, _ => none
  | n + 1, l0, l1, l2, M => gA 13 51 M l0 fun a1 => aI M a1 l1 fun v2 => if (((4 : Int32) * l1) + v2) ≤ (l2 + (1 : Int32)) then (gA 13 51 M l0 fun a3 => aI M a3 l1 fun v4 => sI M a3 l1 (v4 - (1 : Int32)) fun M5 => gA 13 52 M5 l0 fun a6 => sI M5 a6 l1 (0 : Int32) fun M7 => some M7) else gA 13 53 M l0 fun a8 => gA 13 53 M l0 fun a9 => aI M a9 (l2 + (1 : Int32)) fun v10 => sI M a8 l2 v10 fun M11 => f_m_pops_36 (f_m_pops_4 n) FU l0 l1 l2 (0 : Int32) M11
def f_m_pops (p0 : Nat) (p1 : Int32) (M : Mem) : Option (Mem) :=
  f_m_pops_4 FU p0 p1 ((4 : Int32) * p1) M
-- 155: PipelineSimulatorModel.saves(II)V
def f_m_saves_79 (k2 : Nat → Int32 → Int32 → Int32 → Mem → Option (Mem)) (l0 : Nat) (l1 : Int32) (l2 : Int32) (l3 : Int32) (M : Mem) : Option (Mem) :=
  k2 l0 l1 l2 (l3 + (1 : Int32)) M
def f_m_saves_85 (l0 : Nat) (l1 : Int32) (l2 : Int32) (M : Mem) : Option (Mem) :=
  gA 13 34 M l0 fun a1 => cI (f_m_spot l1 l2 M) fun v3 M2 => gA 13 33 M2 l0 fun a4 => cI (f_m_spot l1 l2 M2) fun v6 M5 => aI M5 a4 v6 fun v7 => sI M5 a1 v3 v7 fun M8 => some M8
def f_m_saves_2 : Nat → Nat → Int32 → Int32 → Int32 → Mem → Option (Mem)
  | 0, _, _, _, _, _ => none
  | n + 1, l0, l1, l2, l3, M => if (16 : Int32) ≤ l3 then (f_m_saves_85 l0 l1 l2 M) else ck M l0 13 <| cI (f_m_isKeyed l0 l1 M) fun v2 M1 => if v2 = (0 : Int32) then (f_m_saves_85 l0 l1 l2 M1) else ck M1 l0 13 <| cI (f_m_home l0 l1 l3 M1) fun v4 M3 => if v4 = l2 then (gA 13 25 M3 l0 fun a5 => gA 13 24 M3 l0 fun a6 => aB M3 a6 (((16 : Int32) * l1) + l3) fun v7 => sB M3 a5 (((16 : Int32) * l1) + l3) v7 fun M8 => gA 13 28 M8 l0 fun a9 => gA 13 27 M8 l0 fun a10 => aI M8 a10 (((16 : Int32) * l1) + l3) fun v11 => sI M8 a9 (((16 : Int32) * l1) + l3) v11 fun M12 => gA 13 31 M12 l0 fun a13 => gA 13 30 M12 l0 fun a14 => aI M12 a14 (((16 : Int32) * l1) + l3) fun v15 => sI M12 a13 (((16 : Int32) * l1) + l3) v15 fun M16 => f_m_saves_79 (f_m_saves_2 n) l0 l1 l2 l3 M16) else f_m_saves_79 (f_m_saves_2 n) l0 l1 l2 l3 M3
def f_m_saves (p0 : Nat) (p1 : Int32) (p2 : Int32) (M : Mem) : Option (Mem) :=
  f_m_saves_2 FU p0 p1 p2 (0 : Int32) M
-- 156: PipelineSimulatorModel.completes()V
def f_m_completes_52 : Nat → Nat → Int32 → Mem → Option (Mem)
  | 0, _, _, _ => none
  | n + 1, l0, l1, M => if (18 : Int32) ≤ l1 then (gI 13 36 M l0 fun v1 => pI 13 37 M l0 v1 fun M2 => gI 13 17 M2 l0 fun v3 => pI 13 16 M2 l0 v3 fun M4 => pI 13 17 M4 l0 (0 : Int32) fun M5 => some M5) else gA 13 35 M l0 fun a6 => gA 13 34 M l0 fun a7 => aI M a7 l1 fun v8 => sI M a6 l1 v8 fun M9 => f_m_completes_52 n l0 (l1 + (1 : Int32)) M9
def f_m_completes_2 : Nat → Nat → Int32 → Mem → Option (Mem)
  | 0, _, _, _ => none
  | n + 1, l0, l1, M => if (96 : Int32) ≤ l1 then (f_m_completes_52 FU l0 (0 : Int32) M) else gA 13 26 M l0 fun a1 => gA 13 25 M l0 fun a2 => aB M a2 l1 fun v3 => sB M a1 l1 v3 fun M4 => gA 13 29 M4 l0 fun a5 => gA 13 28 M4 l0 fun a6 => aI M4 a6 l1 fun v7 => sI M4 a5 l1 v7 fun M8 => gA 13 32 M8 l0 fun a9 => gA 13 31 M8 l0 fun a10 => aI M8 a10 l1 fun v11 => sI M8 a9 l1 v11 fun M12 => f_m_completes_2 n l0 (l1 + (1 : Int32)) M12
def f_m_completes (p0 : Nat) (M : Mem) : Option (Mem) :=
  f_m_completes_2 FU p0 (0 : Int32) M
-- 157: PipelineSimulatorModel.barrier(III)V
def f_m_barrier (p0 : Nat) (p1 : Int32) (p2 : Int32) (p3 : Int32) (M : Mem) : Option (Mem) :=
  cI (f_m_spot p1 p2 M) fun v2 M1 => gA 13 43 M1 p0 fun a3 => aI M1 a3 v2 fun v4 => sI M1 a3 v2 (v4 ||| ((1 : Int32) <<< (p3 &&& 31))) fun M5 => gA 13 43 M5 p0 fun a6 => aI M5 a6 v2 fun v7 => gA 13 6 M5 p0 fun a8 => aI M5 a8 (p1 - (1 : Int32)) fun v9 => if v7 = (((1 : Int32) <<< (v9 &&& 31)) - (1 : Int32)) then (gA 13 43 M5 p0 fun a10 => sI M5 a10 v2 (0 : Int32) fun M11 => ck M11 p0 13 <| cV (f_m_saves p0 p1 p2 M11) fun M12 => ck M12 p0 13 <| cI (f_m_sink p0 M12) fun v14 M13 => if v14 ≤ p1 then (gI 13 38 M13 p0 fun v15 => pI 13 38 M13 p0 (v15 + (1 : Int32)) fun M16 => gI 13 38 M16 p0 fun v17 => gA 13 6 M16 p0 fun a18 => aI M16 a18 p1 fun v19 => if v17 = v19 then (ck M16 p0 13 <| cV (f_m_completes p0 M16) fun M20 => some M20) else some M16) else gA 13 45 M13 p0 fun a21 => sB M13 a21 v2 (1 : Int32) fun M22 => some M22) else some M5
-- 158: PipelineSimulatorModel.gives(II)V
def f_m_gives (p0 : Nat) (p1 : Int32) (p2 : Int32) (M : Mem) : Option (Mem) :=
  gA 13 66 M p0 fun a1 => gI 13 68 M p0 fun v2 => sI M a1 v2 p1 fun M3 => gA 13 67 M3 p0 fun a4 => gI 13 68 M3 p0 fun v5 => sI M3 a4 v5 p2 fun M6 => gI 13 68 M6 p0 fun v7 => pI 13 68 M6 p0 (v7 + (1 : Int32)) fun M8 => some M8
-- 159: PipelineSimulatorModel.rest(I)I
def f_m_rest (p0 : Int32) (M : Mem) : Option (Int32 × Mem) :=
  rmI p0 (16 : Int32) fun v1 => if (0 : Int32) ≤ v1 then (some (v1, M)) else some ((v1 + (16 : Int32)), M)
-- 160: PipelineSimulatorModel.processes(III[Z[I[I)V
def f_m_processes_144 (l0 : Nat) (l2 : Int32) (l3 : Int32) (M : Mem) : Option (Mem) :=
  ck M l0 13 <| cV (f_m_gives l0 l2 l3 M) fun M1 => some M1
def f_m_processes_178 : Nat → Nat → Int32 → Int32 → Int32 → Int32 → Mem → Option (Mem)
  | 0, _, _, _, _, _, _ => none
  | n + 1, l0, l1, l2, l3, l9, M => gA 13 4 M l0 fun a1 => aI M a1 l1 fun v2 => if v2 ≤ l9 then (some M) else ck M l0 13 <| cV (f_m_gives l0 l2 (l3 + l9) M) fun M3 => f_m_processes_178 n l0 l1 l2 l3 (l9 + (1 : Int32)) M3
def f_m_processes_358 (l4 : Nat) (l7 : Int32) (M : Mem) : Option (Mem) :=
  sB M l4 l7 (1 : Int32) fun M1 => some M1
def f_m_processes_225 (l3 : Int32) (l4 : Nat) (l5 : Nat) (l6 : Nat) (l7 : Int32) (M : Mem) : Option (Mem) :=
  sI M l5 l7 l3 fun M1 => sI M1 l6 l7 (0 : Int32) fun M2 => f_m_processes_358 l4 l7 M2
def f_m_processes_219 (l0 : Nat) (l2 : Int32) (l3 : Int32) (l4 : Nat) (l5 : Nat) (l6 : Nat) (l7 : Int32) (M : Mem) : Option (Mem) :=
  ck M l0 13 <| cV (f_m_gives l0 l2 l3 M) fun M1 => f_m_processes_225 l3 l4 l5 l6 l7 M1
def f_m_processes_266 (l4 : Nat) (l6 : Nat) (l7 : Int32) (M : Mem) : Option (Mem) :=
  sI M l6 l7 (0 : Int32) fun M1 => f_m_processes_358 l4 l7 M1
def f_m_processes_254 (l0 : Nat) (l2 : Int32) (l3 : Int32) (l4 : Nat) (l5 : Nat) (l6 : Nat) (l7 : Int32) (M : Mem) : Option (Mem) :=
  ck M l0 13 <| cV (f_m_gives l0 l2 l3 M) fun M1 => sI M1 l5 l7 l3 fun M2 => f_m_processes_266 l4 l6 l7 M2
def f_m_processes_316 (l0 : Nat) (l1 : Int32) (l2 : Int32) (l4 : Nat) (l5 : Nat) (l6 : Nat) (l7 : Int32) (s0 : Int32) (s1 : Int32) (s2 : Nat) (M : Mem) : Option (Mem) :=
  sI M s2 s1 s0 fun M1 => gA 13 3 M1 l0 fun a2 => aI M1 a2 l1 fun v3 => if v3 = (4 : Int32) then (aI M1 l6 l7 fun v4 => gA 13 4 M1 l0 fun a5 => aI M1 a5 l1 fun v6 => if v4 = v6 then (aI M1 l5 l7 fun v7 => ck M1 l0 13 <| cV (f_m_gives l0 l2 v7 M1) fun M8 => sB M8 l4 l7 (0 : Int32) fun M9 => some M9) else f_m_processes_358 l4 l7 M1) else f_m_processes_358 l4 l7 M1
def f_m_processes_295 (l0 : Nat) (l1 : Int32) (l2 : Int32) (l4 : Nat) (l5 : Nat) (l6 : Nat) (l7 : Int32) (l8 : Int32) (s0 : Int32) (s1 : Int32) (s2 : Nat) (M : Mem) : Option (Mem) :=
  sI M s2 s1 s0 fun M1 => if l8 = (0 : Int32) then (f_m_processes_316 l0 l1 l2 l4 l5 l6 l7 (1 : Int32) l7 l6 M1) else aI M1 l6 l7 fun v2 => f_m_processes_316 l0 l1 l2 l4 l5 l6 l7 (v2 + (1 : Int32)) l7 l6 M1
def f_m_processes (p0 : Nat) (p1 : Int32) (p2 : Int32) (p3 : Int32) (p4 : Nat) (p5 : Nat) (p6 : Nat) (M : Mem) : Option (Mem) :=
  pI 13 68 M p0 (0 : Int32) fun M1 => aB M1 p4 (((16 : Int32) * p1) + p2) fun v2 => gA 13 3 M1 p0 fun a3 => aI M1 a3 p1 fun v4 => if v4 = (0 : Int32) then (gA 13 4 M1 p0 fun a5 => aI M1 a5 p1 fun v6 => gA 13 5 M1 p0 fun a7 => aI M1 a7 p1 fun v8 => ck M1 p0 13 <| cV (f_m_gives p0 p2 ((p3 * v6) + v8) M1) fun M9 => some M9) else if v4 = (1 : Int32) then (gA 13 4 M1 p0 fun a10 => aI M1 a10 p1 fun v11 => if v11 = (0 : Int32) then (gA 13 5 M1 p0 fun a18 => aI M1 a18 p1 fun v19 => if v19 ≤ p3 then (some M1) else f_m_processes_144 p0 p2 p3 M1) else gA 13 4 M1 p0 fun a12 => aI M1 a12 p1 fun v13 => if v13 = (1 : Int32) then (gA 13 5 M1 p0 fun a16 => aI M1 a16 p1 fun v17 => if p3 = v17 then (f_m_processes_144 p0 p2 p3 M1) else some M1) else gA 13 5 M1 p0 fun a14 => aI M1 a14 p1 fun v15 => if p3 ≤ v15 then (some M1) else f_m_processes_144 p0 p2 p3 M1) else if v4 = (2 : Int32) then (gA 13 4 M1 p0 fun a20 => aI M1 a20 p1 fun v21 => gA 13 5 M1 p0 fun a22 => aI M1 a22 p1 fun v23 => cI (f_m_rest ((p2 * v21) + v23) M1) fun v25 M24 => ck M24 p0 13 <| cV (f_m_gives p0 v25 p3 M24) fun M26 => some M26) else if v4 = (3 : Int32) then (f_m_processes_178 FU p0 p1 p2 p3 (0 : Int32) M1) else if v4 = (4 : Int32) then (if v2 = (0 : Int32) then (f_m_processes_295 p0 p1 p2 p4 p5 p6 (((16 : Int32) * p1) + p2) v2 p3 (((16 : Int32) * p1) + p2) p5 M1) else aI M1 p5 (((16 : Int32) * p1) + p2) fun v27 => f_m_processes_295 p0 p1 p2 p4 p5 p6 (((16 : Int32) * p1) + p2) v2 (v27 + p3) (((16 : Int32) * p1) + p2) p5 M1) else if v4 = (5 : Int32) then (if v2 = (0 : Int32) then (f_m_processes_219 p0 p2 p3 p4 p5 p6 (((16 : Int32) * p1) + p2) M1) else aI M1 p5 (((16 : Int32) * p1) + p2) fun v28 => if v28 = p3 then (f_m_processes_225 p3 p4 p5 p6 (((16 : Int32) * p1) + p2) M1) else f_m_processes_219 p0 p2 p3 p4 p5 p6 (((16 : Int32) * p1) + p2) M1) else if v4 = (6 : Int32) then (if v2 = (0 : Int32) then (f_m_processes_254 p0 p2 p3 p4 p5 p6 (((16 : Int32) * p1) + p2) M1) else aI M1 p5 (((16 : Int32) * p1) + p2) fun v29 => if p3 ≤ v29 then (f_m_processes_266 p4 p6 (((16 : Int32) * p1) + p2) M1) else f_m_processes_254 p0 p2 p3 p4 p5 p6 (((16 : Int32) * p1) + p2) M1) else if v2 = (0 : Int32) then (f_m_processes_295 p0 p1 p2 p4 p5 p6 (((16 : Int32) * p1) + p2) v2 p3 (((16 : Int32) * p1) + p2) p5 M1) else aI M1 p5 (((16 : Int32) * p1) + p2) fun v30 => f_m_processes_295 p0 p1 p2 p4 p5 p6 (((16 : Int32) * p1) + p2) v2 (v30 + p3) (((16 : Int32) * p1) + p2) p5 M1
-- 161: PipelineSimulatorModel.takesIn(IIIII)V
def f_m_takesIn_33 : Nat → Nat → Int32 → Int32 → Int32 → Int32 → Mem → Option (Mem)
  | 0, _, _, _, _, _, _ => none
  | n + 1, l0, l1, l2, l5, l6, M => gI 13 68 M l0 fun v1 => if v1 ≤ l6 then (ck M l0 13 <| cI (f_m_sink l0 M) fun v3 M2 => if v3 ≤ l1 then (gA 13 57 M2 l0 fun a4 => gI 13 15 M2 l0 fun v5 => aI M2 a4 ((v5 - (1 : Int32)) - l5) fun v6 => sI M2 a4 ((v5 - (1 : Int32)) - l5) (v6 + (1 : Int32)) fun M7 => gI 13 58 M7 l0 fun v8 => pI 13 58 M7 l0 (v8 + (1 : Int32)) fun M9 => gJ 13 59 M9 l0 fun v10 => gI 13 15 M9 l0 fun v11 => pJ 13 59 M9 l0 (v10 + ((v11 - (1 : Int32)) - l5).toInt64) fun M12 => some M12) else some M2) else gA 13 66 M l0 fun a13 => aI M a13 l6 fun v14 => gA 13 67 M l0 fun a15 => aI M a15 l6 fun v16 => ck M l0 13 <| cV (f_m_emits l0 l1 l2 v14 v16 l5 M) fun M17 => f_m_takesIn_33 n l0 l1 l2 l5 (l6 + (1 : Int32)) M17
def f_m_takesIn (p0 : Nat) (p1 : Int32) (p2 : Int32) (p3 : Int32) (p4 : Int32) (p5 : Int32) (M : Mem) : Option (Mem) :=
  gA 13 20 M p0 fun a1 => aI M a1 p1 fun v2 => sI M a1 p1 (v2 + (1 : Int32)) fun M3 => gA 13 24 M3 p0 fun a4 => gA 13 27 M3 p0 fun a5 => gA 13 30 M3 p0 fun a6 => ck M3 p0 13 <| cV (f_m_processes p0 p1 p3 p4 a4 a5 a6 M3) fun M7 => f_m_takesIn_33 FU p0 p1 p2 p5 (0 : Int32) M7
-- 162: PipelineSimulatorModel.takes(II)Z
def f_m_takes_237 (l0 : Nat) (l1 : Int32) (l2 : Int32) (l5 : Int32) (l6 : Int32) (l7 : Int32) (M : Mem) : Option (Int32 × Mem) :=
  ck M l0 13 <| cV (f_m_takesIn l0 l1 l2 l5 l6 l7 M) fun M1 => some ((1 : Int32), M1)
def f_m_takes (p0 : Nat) (p1 : Int32) (p2 : Int32) (M : Mem) : Option (Int32 × Mem) :=
  if p1 = (0 : Int32) then (gI 13 14 M p0 fun v36 => gI 13 13 M p0 fun v37 => if v36 = v37 then (some ((0 : Int32), M)) else gA 13 20 M p0 fun a38 => aI M a38 (0 : Int32) fun v39 => sI M a38 (0 : Int32) (v39 + (1 : Int32)) fun M40 => gA 13 11 M40 p0 fun a41 => gI 13 14 M40 p0 fun v42 => aI M40 a41 v42 fun v43 => gA 13 12 M40 p0 fun a44 => gI 13 14 M40 p0 fun v45 => aI M40 a44 v45 fun v46 => gI 13 15 M40 p0 fun v47 => ck M40 p0 13 <| cV (f_m_emits p0 (0 : Int32) (0 : Int32) v43 v46 (v47 - (1 : Int32)) M40) fun M48 => gI 13 14 M48 p0 fun v49 => pI 13 14 M48 p0 (v49 + (1 : Int32)) fun M50 => some ((1 : Int32), M50)) else ck M p0 13 <| cI (f_m_ready p0 p1 p2 M) fun v2 M1 => if (0 : Int32) ≤ v2 then (gA 13 44 M1 p0 fun a3 => cI (f_m_spot p1 p2 M1) fun v5 M4 => gA 13 6 M4 p0 fun a6 => aI M4 a6 (p1 - (1 : Int32)) fun v7 => rmI (v2 + (1 : Int32)) v7 fun v8 => sI M4 a3 v5 v8 fun M9 => cI (f_m_line (p1 - (1 : Int32)) v2 p2 M9) fun v11 M10 => gA 13 53 M10 p0 fun a12 => aI M10 a12 ((4 : Int32) * v11) fun v13 => if (0 : Int32) ≤ v13 then (gA 13 54 M10 p0 fun a14 => gA 13 52 M10 p0 fun a15 => aI M10 a15 v11 fun v16 => aI M10 a14 (((16 : Int32) * v11) + v16) fun v17 => gA 13 55 M10 p0 fun a18 => gA 13 52 M10 p0 fun a19 => aI M10 a19 v11 fun v20 => aI M10 a18 (((16 : Int32) * v11) + v20) fun v21 => gA 13 56 M10 p0 fun a22 => gA 13 52 M10 p0 fun a23 => aI M10 a23 v11 fun v24 => aI M10 a22 (((16 : Int32) * v11) + v24) fun v25 => gA 13 52 M10 p0 fun a26 => aI M10 a26 v11 fun v27 => sI M10 a26 v11 (v27 + (1 : Int32)) fun M28 => gA 13 52 M28 p0 fun a29 => aI M28 a29 v11 fun v30 => gA 13 53 M28 p0 fun a31 => aI M28 a31 ((4 : Int32) * v11) fun v32 => if v30 = v32 then (ck M28 p0 13 <| cV (f_m_pops p0 v11 M28) fun M33 => f_m_takes_237 p0 p1 p2 v17 v21 v25 M33) else f_m_takes_237 p0 p1 p2 v17 v21 v25 M28) else ck M10 p0 13 <| cV (f_m_pops p0 v11 M10) fun M34 => ck M34 p0 13 <| cV (f_m_barrier p0 p1 p2 v2 M34) fun M35 => some ((1 : Int32), M35)) else some ((0 : Int32), M1)
-- 163: PipelineSimulatorModel.works(II)V
def f_m_works_87 (k8 : Nat → Int32 → Int32 → Int32 → Int32 → Mem → Option (Mem)) (l0 : Nat) (l1 : Int32) (l2 : Int32) (l3 : Int32) (l4 : Int32) (M : Mem) : Option (Mem) :=
  k8 l0 l1 l2 (l3 + (-1 : Int32)) l4 M
def f_m_works_35 (k8 : Nat → Int32 → Int32 → Int32 → Int32 → Mem → Option (Mem)) (l0 : Nat) (l1 : Int32) (l2 : Int32) (l3 : Int32) (s0 : Int32) (M : Mem) : Option (Mem) :=
  if s0 = (0 : Int32) then (gA 13 22 M l0 fun a6 => aI M a6 l1 fun v7 => sI M a6 l1 (v7 + (1 : Int32)) fun M8 => f_m_works_87 k8 l0 l1 l2 l3 s0 M8) else if l3 = (0 : Int32) then (f_m_works_87 k8 l0 l1 l2 l3 (0 : Int32) M) else ck M l0 13 <| cI (f_m_takes l0 l1 l2 M) fun v2 M1 => if v2 = (0 : Int32) then (gA 13 23 M1 l0 fun a3 => aI M1 a3 l1 fun v4 => sI M1 a3 l1 (v4 + (1 : Int32)) fun M5 => f_m_works_87 k8 l0 l1 l2 l3 (0 : Int32) M5) else f_m_works_87 k8 l0 l1 l2 l3 s0 M1
def f_m_works_30 (k8 : Nat → Int32 → Int32 → Int32 → Int32 → Mem → Option (Mem)) (l0 : Nat) (l1 : Int32) (l2 : Int32) (l3 : Int32) (M : Mem) : Option (Mem) :=
  f_m_works_35 k8 l0 l1 l2 l3 (1 : Int32) M
def f_m_works_8 : Nat → Nat → Int32 → Int32 → Int32 → Int32 → Mem → Option (Mem)
  | 0, _, _, _, _, _, _ => none
  | n + 1, l0, l1, l2, l3, l4, M => if l4 = (0 : Int32) then (some M) else ck M l0 13 <| cI (f_m_sink l0 M) fun v2 M1 => if l1 = v2 then (f_m_works_30 (f_m_works_8 n) l0 l1 l2 l3 M1) else ck M1 l0 13 <| cI (f_m_sends l0 l1 l2 M1) fun v4 M3 => if v4 = (0 : Int32) then (f_m_works_35 (f_m_works_8 n) l0 l1 l2 l3 (0 : Int32) M3) else f_m_works_30 (f_m_works_8 n) l0 l1 l2 l3 M3
def f_m_works (p0 : Nat) (p1 : Int32) (p2 : Int32) (M : Mem) : Option (Mem) :=
  gI 13 10 M p0 fun v1 => f_m_works_8 FU p0 p1 p2 v1 (1 : Int32) M
-- 164: PipelineSimulatorModel.ticks()V
def f_m_ticks_76 (k17 : Nat → Int32 → Mem → Option (Mem)) (l0 : Nat) (l1 : Int32) (M : Mem) : Option (Mem) :=
  k17 l0 (l1 + (1 : Int32)) M
def f_m_ticks_93 (k87 : Nat → Int32 → Mem → Option (Mem)) : Nat → Nat → Int32 → Int32 → Mem → Option (Mem)
  | 0, _, _, _, _ => none
  | n + 1, l0, l1, l2, M => gA 13 6 M l0 fun a1 => aI M a1 l1 fun v2 => if v2 ≤ l2 then (k87 l0 (l1 + (-1 : Int32)) M) else ck M l0 13 <| cV (f_m_works l0 l1 l2 M) fun M3 => f_m_ticks_93 k87 n l0 l1 (l2 + (1 : Int32)) M3
def f_m_ticks_87 : Nat → Nat → Int32 → Mem → Option (Mem)
  | 0, _, _, _ => none
  | n + 1, l0, l1, M => if l1 < (0 : Int32) then (some M) else f_m_ticks_93 (f_m_ticks_87 n) FU l0 l1 (0 : Int32) M
def f_m_ticks_17 : Nat → Nat → Int32 → Mem → Option (Mem)
  | 0, _, _, _ => none
  | n + 1, l0, l1, M => if (54 : Int32) ≤ l1 then (ck M l0 13 <| cI (f_m_sink l0 M) fun v2 M1 => f_m_ticks_87 FU l0 v2 M1) else gA 13 46 M l0 fun a3 => aI M a3 l1 fun v4 => if v4 = (0 : Int32) then (f_m_ticks_76 (f_m_ticks_17 n) l0 l1 M) else gA 13 47 M l0 fun a5 => aI M a5 l1 fun v6 => sI M a5 l1 (v6 + (1 : Int32)) fun M7 => gA 13 47 M7 l0 fun a8 => aI M7 a8 l1 fun v9 => gI 13 8 M7 l0 fun v10 => if v9 < v10 then (f_m_ticks_76 (f_m_ticks_17 n) l0 l1 M7) else gA 13 51 M7 l0 fun a11 => aI M7 a11 l1 fun v12 => gI 13 9 M7 l0 fun v13 => if v13 ≤ v12 then (f_m_ticks_76 (f_m_ticks_17 n) l0 l1 M7) else ck M7 l0 13 <| cV (f_m_closes l0 l1 M7) fun M14 => f_m_ticks_76 (f_m_ticks_17 n) l0 l1 M14
def f_m_ticks (p0 : Nat) (M : Mem) : Option (Mem) :=
  gI 13 15 M p0 fun v1 => pI 13 15 M p0 (v1 + (1 : Int32)) fun M2 => pZ 13 19 M2 p0 (1 : Int32) fun M3 => f_m_ticks_17 FU p0 (0 : Int32) M3
-- 165: PipelineSimulatorModel.tick(I)I
def f_m_tick_16 : Nat → Nat → Int32 → Int32 → Mem → Option (Int32 × Mem)
  | 0, _, _, _, _ => none
  | n + 1, l0, l1, l2, M => if l1 ≤ l2 then (some (l2, M)) else ck M l0 13 <| cI (f_m_quiet l0 M) fun v2 M1 => if v2 = (0 : Int32) then (ck M1 l0 13 <| cV (f_m_ticks l0 M1) fun M3 => f_m_tick_16 n l0 l1 (l2 + (1 : Int32)) M3) else some (l2, M1)
def f_m_tick (p0 : Nat) (p1 : Int32) (M : Mem) : Option (Int32 × Mem) :=
  cI (f_m_isIn p1 (1 : Int32) (200 : Int32) M) fun v2 M1 => if v2 = (0 : Int32) then (some ((-1000000002 : Int32), M1)) else f_m_tick_16 FU p0 p1 (0 : Int32) M1
-- 166: PipelineSimulator.isQuiet()I
def f_x_isQuiet (p0 : Nat) (M : Mem) : Option (Int32 × Mem) :=
  gA 12 3 M p0 fun a1 => ck M a1 11 <| cI (f_sm_quiet a1 M) fun v3 M2 => if v3 = (0 : Int32) then (some ((0 : Int32), M2)) else some ((1 : Int32), M2)
-- 167: PipelineSimulatorModel.isQuiet()I
def f_m_isQuiet (p0 : Nat) (M : Mem) : Option (Int32 × Mem) :=
  ck M p0 13 <| cI (f_m_quiet p0 M) fun v2 M1 => if v2 = (0 : Int32) then (some ((0 : Int32), M1)) else some ((1 : Int32), M1)
-- 168: PipelineSimulator$Simulation.beginCheckpoint()V
def f_sm_beginCheckpoint (p0 : Nat) (M : Mem) : Option (Mem) :=
  pZ 11 14 M p0 (1 : Int32) fun M1 => gI 11 11 M1 p0 fun v2 => pI 11 12 M1 p0 (v2 + (1 : Int32)) fun M3 => gI 11 5 M3 p0 fun v4 => ck M3 p0 11 <| cI (f_sm_sizeOf p0 (v4 + (1 : Int32)) M3) fun v6 M5 => pI 11 13 M5 p0 v6 fun M7 => gI 11 6 M7 p0 fun v8 => pI 11 7 M7 p0 v8 fun M9 => ck M9 p0 11 <| cR (f_sm_instanceAt p0 (0 : Int32) (0 : Int32) M9) fun o11 M10 => onR o11 (some M10) (fun a12 => gI 3 4 M10 a12 fun v13 => pI 3 5 M10 a12 v13 fun M14 => pZ 3 1 M14 a12 (1 : Int32) fun M15 => some M15)
-- 169: PipelineSimulator.checkpoint()I
def f_x_checkpoint (p0 : Nat) (M : Mem) : Option (Int32 × Mem) :=
  gA 12 3 M p0 fun a1 => gI 11 12 M a1 fun v2 => if v2 = (0 : Int32) then (gA 12 3 M p0 fun a3 => ck M a3 11 <| cV (f_sm_beginCheckpoint a3 M) fun M4 => gA 12 3 M4 p0 fun a5 => gI 11 12 M4 a5 fun v6 => some (v6, M4)) else some ((-1000000005 : Int32), M)
-- 170: PipelineSimulatorModel.checkpoint()I
def f_m_checkpoint_68 : Nat → Nat → Int32 → Mem → Option (Int32 × Mem)
  | 0, _, _, _ => none
  | n + 1, l0, l1, M => if (18 : Int32) ≤ l1 then (gI 13 14 M l0 fun v1 => pI 13 36 M l0 v1 fun M2 => gA 13 34 M2 l0 fun a3 => gA 13 33 M2 l0 fun a4 => aI M2 a4 (0 : Int32) fun v5 => sI M2 a3 (0 : Int32) v5 fun M6 => gA 13 45 M6 l0 fun a7 => sB M6 a7 (0 : Int32) (1 : Int32) fun M8 => gI 13 17 M8 l0 fun v9 => some (v9, M8)) else gA 13 34 M l0 fun a10 => sI M a10 l1 (0 : Int32) fun M11 => f_m_checkpoint_68 n l0 (l1 + (1 : Int32)) M11
def f_m_checkpoint_33 : Nat → Nat → Int32 → Mem → Option (Int32 × Mem)
  | 0, _, _, _ => none
  | n + 1, l0, l1, M => if (96 : Int32) ≤ l1 then (f_m_checkpoint_68 FU l0 (0 : Int32) M) else gA 13 25 M l0 fun a1 => sB M a1 l1 (0 : Int32) fun M2 => gA 13 28 M2 l0 fun a3 => sI M2 a3 l1 (0 : Int32) fun M4 => gA 13 31 M4 l0 fun a5 => sI M4 a5 l1 (0 : Int32) fun M6 => f_m_checkpoint_33 n l0 (l1 + (1 : Int32)) M6
def f_m_checkpoint (p0 : Nat) (M : Mem) : Option (Int32 × Mem) :=
  gI 13 17 M p0 fun v1 => if v1 ≤ (0 : Int32) then (gI 13 16 M p0 fun v2 => pI 13 17 M p0 (v2 + (1 : Int32)) fun M3 => pZ 13 19 M3 p0 (1 : Int32) fun M4 => pI 13 38 M4 p0 (0 : Int32) fun M5 => f_m_checkpoint_33 FU p0 (0 : Int32) M5) else some ((-1000000005 : Int32), M)
-- 171: PipelineSimulator$Simulation.failNow()V
def f_sm_failNow (p0 : Nat) (M : Mem) : Option (Mem) :=
  ck M p0 11 <| cV (f_sm_returnToSaved p0 M) fun M1 => gI 11 10 M1 p0 fun v2 => pI 11 10 M1 p0 (v2 + (1 : Int32)) fun M3 => some M3
-- 172: PipelineSimulator.fail()I
def f_x_fail (p0 : Nat) (M : Mem) : Option (Int32 × Mem) :=
  gA 12 3 M p0 fun a1 => ck M a1 11 <| cV (f_sm_failNow a1 M) fun M2 => gA 12 3 M2 p0 fun a3 => gI 11 11 M2 a3 fun v4 => some (v4, M2)
-- 173: PipelineSimulatorModel.fail()I
def f_m_fail (p0 : Nat) (M : Mem) : Option (Int32 × Mem) :=
  gI 13 18 M p0 fun v1 => pI 13 18 M p0 (v1 + (1 : Int32)) fun M2 => ck M2 p0 13 <| cV (f_m_breaks p0 M2) fun M3 => gI 13 16 M3 p0 fun v4 => some (v4, M3)
-- 174: PipelineSimulator$Operator.keysMovedBy(I)I
def f_op_keysMovedBy_42 (k4 : Nat → Int32 → Int32 → Int32 → Mem → Option (Int32 × Mem)) (l0 : Nat) (l1 : Int32) (l2 : Int32) (l3 : Int32) (M : Mem) : Option (Int32 × Mem) :=
  k4 l0 l1 l2 (l3 + (1 : Int32)) M
def f_op_keysMovedBy_4 : Nat → Nat → Int32 → Int32 → Int32 → Mem → Option (Int32 × Mem)
  | 0, _, _, _, _, _ => none
  | n + 1, l0, l1, l2, l3, M => if (16 : Int32) ≤ l3 then (some (l2, M)) else gA 6 1 M l0 fun a1 => ck M a1 4 <| cI (f_ky_has a1 l3 M) fun v3 M2 => if v3 = (0 : Int32) then (f_op_keysMovedBy_42 (f_op_keysMovedBy_4 n) l0 l1 l2 l3 M2) else gI 6 9 M2 l0 fun v4 => ck M2 l0 6 <| cI (f_op_ownerOf l0 l3 v4 M2) fun v6 M5 => ck M5 l0 6 <| cI (f_op_ownerOf l0 l3 l1 M5) fun v8 M7 => if v6 = v8 then (f_op_keysMovedBy_42 (f_op_keysMovedBy_4 n) l0 l1 l2 l3 M7) else f_op_keysMovedBy_42 (f_op_keysMovedBy_4 n) l0 l1 (l2 + (1 : Int32)) l3 M7
def f_op_keysMovedBy (p0 : Nat) (p1 : Int32) (M : Mem) : Option (Int32 × Mem) :=
  f_op_keysMovedBy_4 FU p0 p1 (0 : Int32) (0 : Int32) M
-- 175: PipelineSimulator$Simulation.changeInstances(II)I
def f_sm_changeInstances (p0 : Nat) (p1 : Int32) (p2 : Int32) (M : Mem) : Option (Int32 × Mem) :=
  ck M p0 11 <| cV (f_sm_failNow p0 M) fun M1 => ck M1 p0 11 <| cR (f_sm_operatorAt p0 p1 M1) fun o3 M2 => onR o3 (some ((0 : Int32), M2)) (fun a4 => ck M2 a4 6 <| cI (f_op_keysMovedBy a4 p2 M2) fun v6 M5 => pI 6 9 M5 a4 p2 fun M7 => ck M7 a4 6 <| cV (f_op_resetCounters a4 M7) fun M8 => some (v6, M8))
-- 176: PipelineSimulator.rescale(II)I
def f_x_rescale (p0 : Nat) (p1 : Int32) (p2 : Int32) (M : Mem) : Option (Int32 × Mem) :=
  if p1 = (0 : Int32) then (some ((-1000000001 : Int32), M)) else gA 12 3 M p0 fun a1 => ck M a1 11 <| cR (f_sm_operatorAt a1 p1 M) fun o3 M2 => onR o3 (some ((-1000000001 : Int32), M2)) (fun a4 => if p2 < (1 : Int32) then (some ((-1000000002 : Int32), M2)) else if p2 ≤ (3 : Int32) then (gA 12 3 M2 p0 fun a5 => ck M2 a5 11 <| cI (f_sm_changeInstances a5 p1 p2 M2) fun v7 M6 => some (v7, M6)) else some ((-1000000002 : Int32), M2))
-- 177: PipelineSimulatorModel.isOperator(I)Z
def f_m_isOperator (p0 : Nat) (p1 : Int32) (M : Mem) : Option (Int32 × Mem) :=
  ck M p0 13 <| cI (f_m_sink p0 M) fun v2 M1 => cI (f_m_isIn p1 (0 : Int32) v2 M1) fun v4 M3 => nrZ .boolean v4 (some (v4, M3))
-- 178: PipelineSimulatorModel.rescale(II)I
def f_m_rescale_146 (k89 : Nat → Int32 → Int32 → Int32 → Int32 → Mem → Option (Int32 × Mem)) (l0 : Nat) (l1 : Int32) (l3 : Int32) (l5 : Int32) (s0 : Int32) (s1 : Int32) (M : Mem) : Option (Int32 × Mem) :=
  k89 l0 l1 l3 (s1 + s0) (l5 + (1 : Int32)) M
def f_m_rescale_145 (k89 : Nat → Int32 → Int32 → Int32 → Int32 → Mem → Option (Int32 × Mem)) (l0 : Nat) (l1 : Int32) (l3 : Int32) (l5 : Int32) (s0 : Int32) (M : Mem) : Option (Int32 × Mem) :=
  f_m_rescale_146 k89 l0 l1 l3 l5 (0 : Int32) s0 M
def f_m_rescale_89 : Nat → Nat → Int32 → Int32 → Int32 → Int32 → Mem → Option (Int32 × Mem)
  | 0, _, _, _, _, _, _ => none
  | n + 1, l0, l1, l3, l4, l5, M => if (16 : Int32) ≤ l5 then (some (l4, M)) else ck M l0 13 <| cI (f_m_isKeyed l0 l1 M) fun v2 M1 => if v2 = (0 : Int32) then (some (l4, M1)) else gA 13 24 M1 l0 fun a3 => aB M1 a3 (((16 : Int32) * l1) + l5) fun v4 => if v4 = (0 : Int32) then (f_m_rescale_145 (f_m_rescale_89 n) l0 l1 l3 l5 l4 M1) else rmI l5 (8 : Int32) fun v5 => dvI (v5 * l3) (8 : Int32) fun v6 => ck M1 l0 13 <| cI (f_m_home l0 l1 l5 M1) fun v8 M7 => if v6 = v8 then (f_m_rescale_145 (f_m_rescale_89 n) l0 l1 l3 l5 l4 M7) else f_m_rescale_146 (f_m_rescale_89 n) l0 l1 l3 l5 (1 : Int32) l4 M7
def f_m_rescale_48 : Nat → Nat → Int32 → Int32 → Int32 → Int32 → Mem → Option (Int32 × Mem)
  | 0, _, _, _, _, _, _ => none
  | n + 1, l0, l1, l2, l3, l4, M => if (3 : Int32) ≤ l4 then (gA 13 6 M l0 fun a1 => sI M a1 l1 l2 fun M2 => ck M2 l0 13 <| cV (f_m_breaks l0 M2) fun M3 => f_m_rescale_89 FU l0 l1 l3 (0 : Int32) (0 : Int32) M3) else gA 13 35 M l0 fun a4 => cI (f_m_spot l1 l4 M) fun v6 M5 => sI M5 a4 v6 (0 : Int32) fun M7 => f_m_rescale_48 n l0 l1 l2 l3 (l4 + (1 : Int32)) M7
def f_m_rescale (p0 : Nat) (p1 : Int32) (p2 : Int32) (M : Mem) : Option (Int32 × Mem) :=
  ck M p0 13 <| cI (f_m_isOperator p0 p1 M) fun v2 M1 => if v2 = (0 : Int32) then (some ((-1000000001 : Int32), M1)) else if p1 = (0 : Int32) then (some ((-1000000001 : Int32), M1)) else cI (f_m_isIn p2 (1 : Int32) (3 : Int32) M1) fun v4 M3 => if v4 = (0 : Int32) then (some ((-1000000002 : Int32), M3)) else gI 13 18 M3 p0 fun v5 => pI 13 18 M3 p0 (v5 + (1 : Int32)) fun M6 => gA 13 6 M6 p0 fun a7 => aI M6 a7 p1 fun v8 => f_m_rescale_48 FU p0 p1 p2 v8 (0 : Int32) M6
-- 179: PipelineSimulator$Simulation.recordsInChannels()I
def f_sm_recordsInChannels_41 (k13 : Int32 → Nat → Int32 → Int32 → Mem → Option (Int32 × Mem)) (l1 : Int32) (l2 : Nat) (l3 : Int32) (l4 : Int32) (M : Mem) : Option (Int32 × Mem) :=
  k13 l1 l2 l3 (l4 + (1 : Int32)) M
def f_sm_recordsInChannels_13 : Nat → Int32 → Nat → Int32 → Int32 → Mem → Option (Int32 × Mem)
  | 0, _, _, _, _, _ => none
  | n + 1, l1, l2, l3, l4, M => if l3 ≤ l4 then (some (l1, M)) else aA M l2 l4 fun a1 => gA 1 1 M a1 fun a2 => gI 9 5 M a2 fun v3 => f_sm_recordsInChannels_41 (f_sm_recordsInChannels_13 n) (l1 + v3) l2 l3 l4 M
def f_sm_recordsInChannels (p0 : Nat) (M : Mem) : Option (Int32 × Mem) :=
  gA 11 3 M p0 fun a1 => aN M a1 fun v2 => f_sm_recordsInChannels_13 FU (0 : Int32) a1 v2 (0 : Int32) M
-- 180: PipelineSimulator$Simulation.recordsInSink()I
def f_sm_recordsInSink_15 : Nat → Option Nat → Int32 → Int32 → Mem → Option (Int32 × Mem)
  | 0, _, _, _, _ => none
  | n + 1, l1, l2, l3, M => onR l1 (if (16 : Int32) ≤ l3 then (some (l2, M)) else some (l2, M)) (fun a1 => if (16 : Int32) ≤ l3 then (some (l2, M)) else gA 6 1 M a1 fun a2 => ck M a2 4 <| cI (f_ky_secondOf a2 l3 M) fun v4 M3 => f_sm_recordsInSink_15 n (some a1) (l2 + v4) (l3 + (1 : Int32)) M3)
def f_sm_recordsInSink (p0 : Nat) (M : Mem) : Option (Int32 × Mem) :=
  gI 11 5 M p0 fun v1 => ck M p0 11 <| cR (f_sm_operatorAt p0 (v1 + (1 : Int32)) M) fun o3 M2 => onR o3 (f_sm_recordsInSink_15 FU none (0 : Int32) (0 : Int32) M2) (fun a4 => f_sm_recordsInSink_15 FU (some a4) (0 : Int32) (0 : Int32) M2)
-- 181: PipelineSimulator.count(I)I
def f_x_count (p0 : Nat) (p1 : Int32) (M : Mem) : Option (Int32 × Mem) :=
  if p1 = (0 : Int32) then (gA 12 3 M p0 fun a1 => gI 11 5 M a1 fun v2 => some ((v2 + (2 : Int32)), M)) else if p1 = (1 : Int32) then (gA 12 3 M p0 fun a3 => gA 11 1 M a3 fun a4 => gI 9 5 M a4 fun v5 => some (v5, M)) else if p1 = (2 : Int32) then (gA 12 3 M p0 fun a6 => gI 11 6 M a6 fun v7 => some (v7, M)) else if p1 = (3 : Int32) then (gA 12 3 M p0 fun a8 => gI 11 9 M a8 fun v9 => some (v9, M)) else if p1 = (4 : Int32) then (gA 12 3 M p0 fun a10 => gI 11 11 M a10 fun v11 => some (v11, M)) else if p1 = (5 : Int32) then (gA 12 3 M p0 fun a12 => gI 11 12 M a12 fun v13 => some (v13, M)) else if p1 = (6 : Int32) then (gA 12 3 M p0 fun a14 => gI 11 10 M a14 fun v15 => some (v15, M)) else if p1 = (7 : Int32) then (gA 12 3 M p0 fun a16 => ck M a16 11 <| cI (f_sm_recordsInChannels a16 M) fun v18 M17 => some (v18, M17)) else if p1 = (8 : Int32) then (gA 12 3 M p0 fun a19 => ck M a19 11 <| cI (f_sm_recordsInLists a19 M) fun v21 M20 => some (v21, M20)) else if p1 = (9 : Int32) then (gA 12 3 M p0 fun a22 => ck M a22 11 <| cI (f_sm_recordsInSink a22 M) fun v24 M23 => some (v24, M23)) else some ((-1000000002 : Int32), M)
-- 182: PipelineSimulatorModel.inside(I)I
def f_m_inside_54 (k16 : Nat → Int32 → Int32 → Int32 → Mem → Option (Int32 × Mem)) (l0 : Nat) (l1 : Int32) (l3 : Int32) (s0 : Int32) (s1 : Int32) (M : Mem) : Option (Int32 × Mem) :=
  k16 l0 l1 (s1 + s0) (l3 + (1 : Int32)) M
def f_m_inside_16 : Nat → Nat → Int32 → Int32 → Int32 → Mem → Option (Int32 × Mem)
  | 0, _, _, _, _, _ => none
  | n + 1, l0, l1, l2, l3, M => gA 13 51 M l0 fun a1 => aI M a1 l1 fun v2 => if v2 ≤ l3 then (some (l2, M)) else gA 13 53 M l0 fun a3 => aI M a3 (((4 : Int32) * l1) + l3) fun v4 => if v4 ≤ (0 : Int32) then (f_m_inside_54 (f_m_inside_16 n) l0 l1 l3 (0 : Int32) l2 M) else gA 13 53 M l0 fun a5 => aI M a5 (((4 : Int32) * l1) + l3) fun v6 => f_m_inside_54 (f_m_inside_16 n) l0 l1 l3 v6 l2 M
def f_m_inside (p0 : Nat) (p1 : Int32) (M : Mem) : Option (Int32 × Mem) :=
  gA 13 46 M p0 fun a1 => aI M a1 p1 fun v2 => gA 13 52 M p0 fun a3 => aI M a3 p1 fun v4 => f_m_inside_16 FU p0 p1 (v2 - v4) (0 : Int32) M
-- 183: PipelineSimulatorModel.count(I)I
def f_m_count_107 : Nat → Nat → Int32 → Int32 → Mem → Option (Int32 × Mem)
  | 0, _, _, _, _ => none
  | n + 1, l0, l2, l3, M => if (54 : Int32) ≤ l3 then (some (l2, M)) else ck M l0 13 <| cI (f_m_inside l0 l3 M) fun v2 M1 => f_m_count_107 n l0 (l2 + v2) (l3 + (1 : Int32)) M1
def f_m_count_131 : Nat → Nat → Int32 → Int32 → Mem → Option (Int32 × Mem)
  | 0, _, _, _, _ => none
  | n + 1, l0, l2, l3, M => if (18 : Int32) ≤ l3 then (some (l2, M)) else gA 13 39 M l0 fun a1 => aI M a1 l3 fun v2 => f_m_count_131 n l0 (l2 + v2) (l3 + (1 : Int32)) M
def f_m_count_198 (k156 : Nat → Int32 → Int32 → Mem → Option (Int32 × Mem)) (l0 : Nat) (l3 : Int32) (s0 : Int32) (s1 : Int32) (M : Mem) : Option (Int32 × Mem) :=
  k156 l0 (s1 + s0) (l3 + (1 : Int32)) M
def f_m_count_156 : Nat → Nat → Int32 → Int32 → Mem → Option (Int32 × Mem)
  | 0, _, _, _, _ => none
  | n + 1, l0, l2, l3, M => if (16 : Int32) ≤ l3 then (some (l2, M)) else gA 13 24 M l0 fun a1 => ck M l0 13 <| cI (f_m_sink l0 M) fun v3 M2 => aB M2 a1 (((16 : Int32) * v3) + l3) fun v4 => if v4 = (0 : Int32) then (f_m_count_198 (f_m_count_156 n) l0 l3 (0 : Int32) l2 M2) else gA 13 30 M2 l0 fun a5 => ck M2 l0 13 <| cI (f_m_sink l0 M2) fun v7 M6 => aI M6 a5 (((16 : Int32) * v7) + l3) fun v8 => f_m_count_198 (f_m_count_156 n) l0 l3 v8 l2 M6
def f_m_count (p0 : Nat) (p1 : Int32) (M : Mem) : Option (Int32 × Mem) :=
  cI (f_m_isIn p1 (0 : Int32) (9 : Int32) M) fun v2 M1 => if v2 = (0 : Int32) then (some ((-1000000002 : Int32), M1)) else if p1 = (0 : Int32) then (gI 13 2 M1 p0 fun v3 => some ((v3 + (2 : Int32)), M1)) else if p1 = (1 : Int32) then (gI 13 13 M1 p0 fun v4 => some (v4, M1)) else if p1 = (2 : Int32) then (gI 13 14 M1 p0 fun v5 => some (v5, M1)) else if p1 = (3 : Int32) then (gI 13 15 M1 p0 fun v6 => some (v6, M1)) else if p1 = (4 : Int32) then (gI 13 16 M1 p0 fun v7 => some (v7, M1)) else if p1 = (5 : Int32) then (gI 13 17 M1 p0 fun v8 => some (v8, M1)) else if p1 = (6 : Int32) then (gI 13 18 M1 p0 fun v9 => some (v9, M1)) else if p1 = (7 : Int32) then (f_m_count_107 FU p0 (0 : Int32) (0 : Int32) M1) else if p1 = (8 : Int32) then (f_m_count_131 FU p0 (0 : Int32) (0 : Int32) M1) else f_m_count_156 FU p0 (0 : Int32) (0 : Int32) M1
-- 184: PipelineSimulator.operator(II)I
def f_x_operator (p0 : Nat) (p1 : Int32) (p2 : Int32) (M : Mem) : Option (Int32 × Mem) :=
  gA 12 3 M p0 fun a1 => ck M a1 11 <| cR (f_sm_operatorAt a1 p1 M) fun o3 M2 => onR o3 (some ((-1000000001 : Int32), M2)) (fun a4 => if p2 = (0 : Int32) then (gI 6 6 M2 a4 fun v5 => some (v5, M2)) else if p2 = (1 : Int32) then (gI 6 9 M2 a4 fun v6 => some (v6, M2)) else if p2 = (2 : Int32) then (gI 6 7 M2 a4 fun v7 => some (v7, M2)) else if p2 = (3 : Int32) then (gI 6 8 M2 a4 fun v8 => some (v8, M2)) else if p2 = (4 : Int32) then (gI 6 10 M2 a4 fun v9 => some (v9, M2)) else if p2 = (5 : Int32) then (gI 6 11 M2 a4 fun v10 => some (v10, M2)) else if p2 = (6 : Int32) then (gI 6 12 M2 a4 fun v11 => some (v11, M2)) else if p2 = (7 : Int32) then (gI 6 13 M2 a4 fun v12 => some (v12, M2)) else some ((-1000000002 : Int32), M2))
-- 185: PipelineSimulatorModel.operator(II)I
def f_m_operator (p0 : Nat) (p1 : Int32) (p2 : Int32) (M : Mem) : Option (Int32 × Mem) :=
  ck M p0 13 <| cI (f_m_isOperator p0 p1 M) fun v2 M1 => if v2 = (0 : Int32) then (some ((-1000000001 : Int32), M1)) else cI (f_m_isIn p2 (0 : Int32) (7 : Int32) M1) fun v4 M3 => if v4 = (0 : Int32) then (some ((-1000000002 : Int32), M3)) else if p2 = (0 : Int32) then (gA 13 3 M3 p0 fun a5 => aI M3 a5 p1 fun v6 => some (v6, M3)) else if p2 = (1 : Int32) then (gA 13 6 M3 p0 fun a7 => aI M3 a7 p1 fun v8 => some (v8, M3)) else if p2 = (2 : Int32) then (gA 13 4 M3 p0 fun a9 => aI M3 a9 p1 fun v10 => some (v10, M3)) else if p2 = (3 : Int32) then (gA 13 5 M3 p0 fun a11 => aI M3 a11 p1 fun v12 => some (v12, M3)) else if p2 = (4 : Int32) then (gA 13 20 M3 p0 fun a13 => aI M3 a13 p1 fun v14 => some (v14, M3)) else if p2 = (5 : Int32) then (gA 13 21 M3 p0 fun a15 => aI M3 a15 p1 fun v16 => some (v16, M3)) else if p2 = (6 : Int32) then (gA 13 22 M3 p0 fun a17 => aI M3 a17 p1 fun v18 => some (v18, M3)) else gA 13 23 M3 p0 fun a19 => aI M3 a19 p1 fun v20 => some (v20, M3)
-- 186: PipelineSimulator$Operator.keysOf(I)I
def f_op_keysOf_37 (k4 : Nat → Int32 → Int32 → Int32 → Mem → Option (Int32 × Mem)) (l0 : Nat) (l1 : Int32) (l2 : Int32) (l3 : Int32) (M : Mem) : Option (Int32 × Mem) :=
  k4 l0 l1 l2 (l3 + (1 : Int32)) M
def f_op_keysOf_4 : Nat → Nat → Int32 → Int32 → Int32 → Mem → Option (Int32 × Mem)
  | 0, _, _, _, _, _ => none
  | n + 1, l0, l1, l2, l3, M => if (16 : Int32) ≤ l3 then (some (l2, M)) else gA 6 1 M l0 fun a1 => ck M a1 4 <| cI (f_ky_has a1 l3 M) fun v3 M2 => if v3 = (0 : Int32) then (f_op_keysOf_37 (f_op_keysOf_4 n) l0 l1 l2 l3 M2) else gI 6 9 M2 l0 fun v4 => ck M2 l0 6 <| cI (f_op_ownerOf l0 l3 v4 M2) fun v6 M5 => if v6 = l1 then (f_op_keysOf_37 (f_op_keysOf_4 n) l0 l1 (l2 + (1 : Int32)) l3 M5) else f_op_keysOf_37 (f_op_keysOf_4 n) l0 l1 l2 l3 M5
def f_op_keysOf (p0 : Nat) (p1 : Int32) (M : Mem) : Option (Int32 × Mem) :=
  f_op_keysOf_4 FU p0 p1 (0 : Int32) (0 : Int32) M
-- 187: PipelineSimulator.instance(III)I
def f_x_instance (p0 : Nat) (p1 : Int32) (p2 : Int32) (p3 : Int32) (M : Mem) : Option (Int32 × Mem) :=
  gA 12 3 M p0 fun a1 => ck M a1 11 <| cR (f_sm_operatorAt a1 p1 M) fun o3 M2 => onR o3 (gA 12 3 M2 p0 fun a5 => ck M2 a5 11 <| cR (f_sm_instanceAt a5 p1 p2 M2) fun o7 M6 => onR o7 (some ((-1000000001 : Int32), M6)) (fun a8 => some ((-1000000001 : Int32), M6))) (fun a4 => gA 12 3 M2 p0 fun a9 => ck M2 a9 11 <| cR (f_sm_instanceAt a9 p1 p2 M2) fun o11 M10 => onR o11 (some ((-1000000001 : Int32), M10)) (fun a12 => if p3 = (0 : Int32) then (gA 3 0 M10 a12 fun a13 => gI 9 5 M10 a13 fun v14 => some (v14, M10)) else if p3 = (1 : Int32) then (gI 3 1 M10 a12 fun v15 => if v15 = (0 : Int32) then (some ((0 : Int32), M10)) else some ((1 : Int32), M10)) else if p3 = (2 : Int32) then (gI 3 2 M10 a12 fun v16 => some (v16, M10)) else if p3 = (3 : Int32) then (gI 3 3 M10 a12 fun v17 => some (v17, M10)) else if p3 = (4 : Int32) then (gI 3 4 M10 a12 fun v18 => some (v18, M10)) else if p3 = (5 : Int32) then (ck M10 a4 6 <| cI (f_op_keysOf a4 p2 M10) fun v20 M19 => some (v20, M19)) else some ((-1000000002 : Int32), M10)))
-- 188: PipelineSimulatorModel.keysOf(II)I
def f_m_keysOf_52 (k5 : Nat → Int32 → Int32 → Int32 → Int32 → Mem → Option (Int32 × Mem)) (l0 : Nat) (l1 : Int32) (l2 : Int32) (l4 : Int32) (s0 : Int32) (s1 : Int32) (M : Mem) : Option (Int32 × Mem) :=
  k5 l0 l1 l2 (s1 + s0) (l4 + (1 : Int32)) M
def f_m_keysOf_51 (k5 : Nat → Int32 → Int32 → Int32 → Int32 → Mem → Option (Int32 × Mem)) (l0 : Nat) (l1 : Int32) (l2 : Int32) (l4 : Int32) (s0 : Int32) (M : Mem) : Option (Int32 × Mem) :=
  f_m_keysOf_52 k5 l0 l1 l2 l4 (0 : Int32) s0 M
def f_m_keysOf_5 : Nat → Nat → Int32 → Int32 → Int32 → Int32 → Mem → Option (Int32 × Mem)
  | 0, _, _, _, _, _, _ => none
  | n + 1, l0, l1, l2, l3, l4, M => if (16 : Int32) ≤ l4 then (some (l3, M)) else ck M l0 13 <| cI (f_m_isKeyed l0 l1 M) fun v2 M1 => if v2 = (0 : Int32) then (some (l3, M1)) else gA 13 24 M1 l0 fun a3 => aB M1 a3 (((16 : Int32) * l1) + l4) fun v4 => if v4 = (0 : Int32) then (f_m_keysOf_51 (f_m_keysOf_5 n) l0 l1 l2 l4 l3 M1) else ck M1 l0 13 <| cI (f_m_home l0 l1 l4 M1) fun v6 M5 => if v6 = l2 then (f_m_keysOf_52 (f_m_keysOf_5 n) l0 l1 l2 l4 (1 : Int32) l3 M5) else f_m_keysOf_51 (f_m_keysOf_5 n) l0 l1 l2 l4 l3 M5
def f_m_keysOf (p0 : Nat) (p1 : Int32) (p2 : Int32) (M : Mem) : Option (Int32 × Mem) :=
  f_m_keysOf_5 FU p0 p1 p2 (0 : Int32) (0 : Int32) M
-- 189: PipelineSimulatorModel.instance(III)I
def f_m_instance (p0 : Nat) (p1 : Int32) (p2 : Int32) (p3 : Int32) (M : Mem) : Option (Int32 × Mem) :=
  ck M p0 13 <| cI (f_m_isOperator p0 p1 M) fun v2 M1 => if v2 = (0 : Int32) then (some ((-1000000001 : Int32), M1)) else gA 13 6 M1 p0 fun a3 => aI M1 a3 p1 fun v4 => cI (f_m_isIn p2 (0 : Int32) (v4 - (1 : Int32)) M1) fun v6 M5 => if v6 = (0 : Int32) then (some ((-1000000001 : Int32), M5)) else cI (f_m_isIn p3 (0 : Int32) (5 : Int32) M5) fun v8 M7 => if v8 = (0 : Int32) then (some ((-1000000002 : Int32), M7)) else cI (f_m_spot p1 p2 M7) fun v10 M9 => if p3 = (0 : Int32) then (gA 13 39 M9 p0 fun a11 => aI M9 a11 v10 fun v12 => some (v12, M9)) else if p3 = (1 : Int32) then (gA 13 45 M9 p0 fun a13 => aB M9 a13 v10 fun v14 => if v14 = (0 : Int32) then (some ((0 : Int32), M9)) else some ((1 : Int32), M9)) else if p3 = (2 : Int32) then (gA 13 43 M9 p0 fun a15 => aI M9 a15 v10 fun v16 => some (v16, M9)) else if p3 = (3 : Int32) then (gA 13 44 M9 p0 fun a17 => aI M9 a17 v10 fun v18 => some (v18, M9)) else if p3 = (4 : Int32) then (gA 13 33 M9 p0 fun a19 => aI M9 a19 v10 fun v20 => some (v20, M9)) else ck M9 p0 13 <| cI (f_m_keysOf p0 p1 p2 M9) fun v22 M21 => some (v22, M21)
-- 190: PipelineSimulator.channel(IIII)I
def f_x_channel (p0 : Nat) (p1 : Int32) (p2 : Int32) (p3 : Int32) (p4 : Int32) (M : Mem) : Option (Int32 × Mem) :=
  gA 12 3 M p0 fun a1 => ck M a1 11 <| cR (f_sm_channelAt a1 p1 p2 p3 M) fun o3 M2 => onR o3 (some ((-1000000001 : Int32), M2)) (fun a4 => if p4 = (0 : Int32) then (gI 1 4 M2 a4 fun v5 => some (v5, M2)) else if p4 = (1 : Int32) then (gI 1 5 M2 a4 fun v6 => some (v6, M2)) else if p4 = (2 : Int32) then (gA 1 1 M2 a4 fun a7 => gI 9 5 M2 a7 fun v8 => some (v8, M2)) else if p4 = (3 : Int32) then (gI 1 6 M2 a4 fun v9 => some (v9, M2)) else if p4 = (4 : Int32) then (gA 12 3 M2 p0 fun a10 => gA 11 0 M2 a10 fun a11 => gI 10 2 M2 a11 fun v12 => gI 1 4 M2 a4 fun v13 => some ((v12 - v13), M2)) else some ((-1000000002 : Int32), M2))
-- 191: PipelineSimulatorModel.channel(IIII)I
def f_m_channel (p0 : Nat) (p1 : Int32) (p2 : Int32) (p3 : Int32) (p4 : Int32) (M : Mem) : Option (Int32 × Mem) :=
  gI 13 2 M p0 fun v1 => cI (f_m_isIn p1 (0 : Int32) v1 M) fun v3 M2 => if v3 = (0 : Int32) then (some ((-1000000001 : Int32), M2)) else gA 13 6 M2 p0 fun a4 => aI M2 a4 p1 fun v5 => cI (f_m_isIn p2 (0 : Int32) (v5 - (1 : Int32)) M2) fun v7 M6 => if v7 = (0 : Int32) then (some ((-1000000001 : Int32), M6)) else gA 13 6 M6 p0 fun a8 => aI M6 a8 (p1 + (1 : Int32)) fun v9 => cI (f_m_isIn p3 (0 : Int32) (v9 - (1 : Int32)) M6) fun v11 M10 => if v11 = (0 : Int32) then (some ((-1000000001 : Int32), M10)) else cI (f_m_isIn p4 (0 : Int32) (4 : Int32) M10) fun v13 M12 => if v13 = (0 : Int32) then (some ((-1000000002 : Int32), M12)) else cI (f_m_line p1 p2 p3 M12) fun v15 M14 => if p4 = (0 : Int32) then (gA 13 51 M14 p0 fun a25 => aI M14 a25 v15 fun v26 => some (v26, M14)) else if p4 = (1 : Int32) then (gA 13 46 M14 p0 fun a23 => aI M14 a23 v15 fun v24 => some (v24, M14)) else if p4 = (2 : Int32) then (ck M14 p0 13 <| cI (f_m_inside p0 v15 M14) fun v22 M21 => some (v22, M21)) else if p4 = (3 : Int32) then (gA 13 47 M14 p0 fun a19 => aI M14 a19 v15 fun v20 => some (v20, M14)) else gI 13 9 M14 p0 fun v16 => gA 13 51 M14 p0 fun a17 => aI M14 a17 v15 fun v18 => some ((v16 - v18), M14)
-- 192: PipelineSimulator.numberOf(LPipelineSimulator$Keyed;II)I
def f_x_numberOf_33 (l0 : Nat) (l1 : Int32) (l2 : Int32) (M : Mem) : Option (Int32 × Mem) :=
  if l2 = (0 : Int32) then (ck M l0 4 <| cI (f_ky_firstOf l0 l1 M) fun v4 M3 => some (v4, M3)) else ck M l0 4 <| cI (f_ky_secondOf l0 l1 M) fun v2 M1 => some (v2, M1)
def f_x_numberOf (p0 : Nat) (p1 : Int32) (p2 : Int32) (M : Mem) : Option (Int32 × Mem) :=
  if p1 < (0 : Int32) then (some ((-1000000001 : Int32), M)) else if (16 : Int32) ≤ p1 then (some ((-1000000001 : Int32), M)) else ck M p0 4 <| cI (f_ky_has p0 p1 M) fun v2 M1 => if v2 = (0 : Int32) then (some ((-1000000001 : Int32), M1)) else if p2 = (0 : Int32) then (f_x_numberOf_33 p0 p1 p2 M1) else if p2 = (1 : Int32) then (f_x_numberOf_33 p0 p1 p2 M1) else some ((-1000000002 : Int32), M1)
-- 193: PipelineSimulator.state(III)I
def f_x_state (p0 : Nat) (p1 : Int32) (p2 : Int32) (p3 : Int32) (M : Mem) : Option (Int32 × Mem) :=
  gA 12 3 M p0 fun a1 => ck M a1 11 <| cR (f_sm_operatorAt a1 p1 M) fun o3 M2 => onR o3 (some ((-1000000001 : Int32), M2)) (fun a4 => gA 6 1 M2 a4 fun a5 => cI (f_x_numberOf a5 p2 p3 M2) fun v7 M6 => some (v7, M6))
-- 194: PipelineSimulatorModel.told(III[Z[I[I)I
def f_m_told (p0 : Nat) (p1 : Int32) (p2 : Int32) (p3 : Int32) (p4 : Nat) (p5 : Nat) (p6 : Nat) (M : Mem) : Option (Int32 × Mem) :=
  ck M p0 13 <| cI (f_m_isOperator p0 p1 M) fun v2 M1 => if v2 = (0 : Int32) then (some ((-1000000001 : Int32), M1)) else cI (f_m_isIn p2 (0 : Int32) (15 : Int32) M1) fun v4 M3 => if v4 = (0 : Int32) then (some ((-1000000001 : Int32), M3)) else ck M3 p0 13 <| cI (f_m_isKeyed p0 p1 M3) fun v6 M5 => if v6 = (0 : Int32) then (some ((-1000000001 : Int32), M5)) else aB M5 p4 (((16 : Int32) * p1) + p2) fun v7 => if v7 = (0 : Int32) then (some ((-1000000001 : Int32), M5)) else cI (f_m_isIn p3 (0 : Int32) (1 : Int32) M5) fun v9 M8 => if v9 = (0 : Int32) then (some ((-1000000002 : Int32), M8)) else if p3 = (0 : Int32) then (aI M8 p5 (((16 : Int32) * p1) + p2) fun v11 => some (v11, M8)) else aI M8 p6 (((16 : Int32) * p1) + p2) fun v10 => some (v10, M8)
-- 195: PipelineSimulatorModel.state(III)I
def f_m_state (p0 : Nat) (p1 : Int32) (p2 : Int32) (p3 : Int32) (M : Mem) : Option (Int32 × Mem) :=
  gA 13 24 M p0 fun a1 => gA 13 27 M p0 fun a2 => gA 13 30 M p0 fun a3 => ck M p0 13 <| cI (f_m_told p0 p1 p2 p3 a1 a2 a3 M) fun v5 M4 => some (v5, M4)
-- 196: PipelineSimulator.savedState(III)I
def f_x_savedState (p0 : Nat) (p1 : Int32) (p2 : Int32) (p3 : Int32) (M : Mem) : Option (Int32 × Mem) :=
  gA 12 3 M p0 fun a1 => ck M a1 11 <| cR (f_sm_operatorAt a1 p1 M) fun o3 M2 => onR o3 (some ((-1000000001 : Int32), M2)) (fun a4 => gA 6 3 M2 a4 fun a5 => cI (f_x_numberOf a5 p2 p3 M2) fun v7 M6 => some (v7, M6))
-- 197: PipelineSimulatorModel.savedState(III)I
def f_m_savedState (p0 : Nat) (p1 : Int32) (p2 : Int32) (p3 : Int32) (M : Mem) : Option (Int32 × Mem) :=
  gA 13 26 M p0 fun a1 => gA 13 29 M p0 fun a2 => gA 13 32 M p0 fun a3 => ck M p0 13 <| cI (f_m_told p0 p1 p2 p3 a1 a2 a3 M) fun v5 M4 => some (v5, M4)
-- 198: PipelineSimulator$Latencies.leastOf(I)I
def f_la_leastOf_52 (k5 : Nat → Int32 → Int64 → Int32 → Mem → Option (Int32 × Mem)) (l0 : Nat) (l1 : Int32) (l2 : Int64) (l4 : Int32) (M : Mem) : Option (Int32 × Mem) :=
  k5 l0 l1 l2 (l4 + (1 : Int32)) M
def f_la_leastOf_5 : Nat → Nat → Int32 → Int64 → Int32 → Mem → Option (Int32 × Mem)
  | 0, _, _, _, _, _ => none
  | n + 1, l0, l1, l2, l4, M => gA 5 0 M l0 fun a1 => aN M a1 fun v2 => if v2 ≤ l4 then (some ((131071 : Int32), M)) else gA 5 0 M l0 fun a3 => aI M a3 l4 fun v4 => if (lg_cmp (l2 + v4.toInt64) (0 : Int64)) ≤ (0 : Int32) then (f_la_leastOf_52 (f_la_leastOf_5 n) l0 l1 (l2 + v4.toInt64) l4 M) else gI 5 1 M l0 fun v5 => if (lg_cmp ((l2 + v4.toInt64) * (100 : Int64)) (l1.toInt64 * v5.toInt64)) < (0 : Int32) then (f_la_leastOf_52 (f_la_leastOf_5 n) l0 l1 (l2 + v4.toInt64) l4 M) else some (l4, M)
def f_la_leastOf (p0 : Nat) (p1 : Int32) (M : Mem) : Option (Int32 × Mem) :=
  f_la_leastOf_5 FU p0 p1 (0 : Int64) (0 : Int32) M
-- 199: PipelineSimulator.latency(I)I
def f_x_latency (p0 : Nat) (p1 : Int32) (M : Mem) : Option (Int32 × Mem) :=
  if p1 < (-2 : Int32) then (some ((-1000000002 : Int32), M)) else if p1 ≤ (100 : Int32) then (gA 12 3 M p0 fun a1 => gA 11 4 M a1 fun a2 => gI 5 1 M a2 fun v3 => if v3 = (0 : Int32) then (some ((-1000000001 : Int32), M)) else if p1 = (-2 : Int32) then (gI 5 2 M a2 fun v7 => some (v7, M)) else if p1 = (-1 : Int32) then (gI 5 1 M a2 fun v6 => some (v6, M)) else ck M a2 5 <| cI (f_la_leastOf a2 p1 M) fun v5 M4 => some (v5, M4)) else some ((-1000000002 : Int32), M)
