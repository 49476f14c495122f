/-! METHODS 0 to 59 as functions -/
-- 0: java/lang/AbstractStringBuilder.<init>(I)V
def f_ab_init (p0 : Nat) (p1 : Int32) (M : Mem) : Option (Mem) :=
  nA M 101 p1 fun a1 M2 => pR 14 0 M2 p0 a1 fun M3 => pB 14 1 M3 p0 (0 : Int32) fun M4 => some M4
-- 1: java/lang/StringBuilder.<init>()V
def f_sb_init (p0 : Nat) (M : Mem) : Option (Mem) :=
  cV (f_ab_init p0 (16 : Int32) M) fun M1 => some M1
-- 2: PipelineSimulator$Reader.<init>(Ljava/lang/StringBuilder;)V
def f_rd_init (p0 : Nat) (p1 : Nat) (M : Mem) : Option (Mem) :=
  nA M 100 (4 : Int32) fun a1 M2 => pR 8 1 M2 p0 a1 fun M3 => nA M3 100 (4 : Int32) fun a4 M5 => pR 8 2 M5 p0 a4 fun M6 => nA M6 100 (4 : Int32) fun a7 M8 => pR 8 3 M8 p0 a7 fun M9 => nA M9 100 (4 : Int32) fun a10 M11 => pR 8 4 M11 p0 a10 fun M12 => pR 8 0 M12 p0 p1 fun M13 => some M13
-- 3: PipelineSimulator$Settings.<init>()V
def f_se_init (p0 : Nat) (M : Mem) : Option (Mem) :=
  pI 10 0 M p0 (2 : Int32) fun M1 => pI 10 1 M1 p0 (3 : Int32) fun M2 => pI 10 2 M2 p0 (2 : Int32) fun M3 => pI 10 3 M3 p0 (2 : Int32) fun M4 => some M4
-- 4: PipelineSimulator$Records.<init>(I)V
def f_rc_init (p0 : Nat) (p1 : Int32) (M : Mem) : Option (Mem) :=
  nA M 100 ((1 : Int32) <<< ((p1 &&& (7 : Int32)) &&& 31)) fun a1 M2 => pR 9 0 M2 p0 a1 fun M3 => nA M3 100 ((1 : Int32) <<< ((p1 &&& (7 : Int32)) &&& 31)) fun a4 M5 => pR 9 1 M5 p0 a4 fun M6 => nA M6 100 ((1 : Int32) <<< ((p1 &&& (7 : Int32)) &&& 31)) fun a7 M8 => pR 9 2 M8 p0 a7 fun M9 => pI 9 3 M9 p0 (((1 : Int32) <<< ((p1 &&& (7 : Int32)) &&& 31)) - (1 : Int32)) fun M10 => some M10
-- 5: PipelineSimulator$Latencies.<init>()V
def f_la_init (p0 : Nat) (M : Mem) : Option (Mem) :=
  nA M 100 (64 : Int32) fun a1 M2 => pR 5 0 M2 p0 a1 fun M3 => some M3
-- 6: PipelineSimulator$Keyed.<init>()V
def f_ky_init (p0 : Nat) (M : Mem) : Option (Mem) :=
  nA M 100 (16 : Int32) fun a1 M2 => pR 4 0 M2 p0 a1 fun M3 => nA M3 100 (16 : Int32) fun a4 M5 => pR 4 1 M5 p0 a4 fun M6 => some M6
-- 7: PipelineSimulator$Instance.<init>()V
def f_is_init (p0 : Nat) (M : Mem) : Option (Mem) :=
  nO M 9 6 fun a1 M2 => cV (f_rc_init a1 (2 : Int32) M2) fun M3 => pR 3 0 M3 p0 a1 fun M4 => some M4
-- 8: PipelineSimulator$Operator.become(IIII)V
def f_op_become (p0 : Nat) (p1 : Int32) (p2 : Int32) (p3 : Int32) (p4 : Int32) (M : Mem) : Option (Mem) :=
  pI 6 6 M p0 p1 fun M1 => pI 6 7 M1 p0 p2 fun M2 => pI 6 8 M2 p0 p3 fun M3 => pI 6 9 M3 p0 p4 fun M4 => some M4
-- 9: PipelineSimulator$Operator.<init>(I)V
def f_op_init_70 : Nat → Nat → Int32 → Int32 → Mem → Option (Mem)
  | 0, _, _, _, _ => none
  | n + 1, l0, l1, l2, M => gA 6 0 M l0 fun a1 => aN M a1 fun v2 => if v2 ≤ l2 then (ck M l0 6 <| cV (f_op_become l0 l1 (0 : Int32) (0 : Int32) (1 : Int32) M) fun M3 => some M3) else gA 6 0 M l0 fun a4 => nO M 3 7 fun a5 M6 => cV (f_is_init a5 M6) fun M7 => sR M7 a4 l2 a5 fun M8 => f_op_init_70 n l0 l1 (l2 + (1 : Int32)) M8
def f_op_init (p0 : Nat) (p1 : Int32) (M : Mem) : Option (Mem) :=
  nA M 104 (3 : Int32) fun a1 M2 => pR 6 0 M2 p0 a1 fun M3 => nO M3 4 3 fun a4 M5 => cV (f_ky_init a4 M5) fun M6 => pR 6 1 M6 p0 a4 fun M7 => nO M7 4 3 fun a8 M9 => cV (f_ky_init a8 M9) fun M10 => pR 6 2 M10 p0 a8 fun M11 => nO M11 4 3 fun a12 M13 => cV (f_ky_init a12 M13) fun M14 => pR 6 3 M14 p0 a12 fun M15 => nO M15 4 3 fun a16 M17 => cV (f_ky_init a16 M17) fun M18 => pR 6 4 M18 p0 a16 fun M19 => nO M19 9 6 fun a20 M21 => cV (f_rc_init a20 (2 : Int32) M21) fun M22 => pR 6 5 M22 p0 a20 fun M23 => f_op_init_70 FU p0 p1 (0 : Int32) M23
-- 10: PipelineSimulator$Channel.<init>(LPipelineSimulator$Settings;)V
def f_ch_init (p0 : Nat) (p1 : Nat) (M : Mem) : Option (Mem) :=
  nO M 9 6 fun a1 M2 => cV (f_rc_init a1 (5 : Int32) M2) fun M3 => pR 1 1 M3 p0 a1 fun M4 => nA M4 100 (4 : Int32) fun a5 M6 => pR 1 2 M6 p0 a5 fun M7 => pR 1 0 M7 p0 p1 fun M8 => some M8
-- 11: PipelineSimulator$Simulation.<init>()V
def f_sm_init_100 : Nat → Nat → Int32 → Mem → Option (Mem)
  | 0, _, _, _ => none
  | n + 1, l0, l1, M => gA 11 3 M l0 fun a1 => aN M a1 fun v2 => if v2 ≤ l1 then (some M) else gA 11 3 M l0 fun a3 => nO M 1 7 fun a4 M5 => gA 11 0 M5 l0 fun a6 => cV (f_ch_init a4 a6 M5) fun M7 => sR M7 a3 l1 a4 fun M8 => f_sm_init_100 n l0 (l1 + (1 : Int32)) M8
def f_sm_init_88 (k59 : Nat → Int32 → Mem → Option (Mem)) (l0 : Nat) (l1 : Int32) (s0 : Int32) (s1 : Nat) (s2 : Nat) (s3 : Int32) (s4 : Nat) (M : Mem) : Option (Mem) :=
  cV (f_op_init s1 s0 M) fun M1 => sR M1 s4 s3 s2 fun M2 => k59 l0 (l1 + (1 : Int32)) M2
def f_sm_init_59 : Nat → Nat → Int32 → Mem → Option (Mem)
  | 0, _, _, _ => none
  | n + 1, l0, l1, M => gA 11 2 M l0 fun a1 => aN M a1 fun v2 => if v2 ≤ l1 then (f_sm_init_100 FU l0 (0 : Int32) M) else gA 11 2 M l0 fun a3 => nO M 6 14 fun a4 M5 => if l1 = (0 : Int32) then (f_sm_init_88 (f_sm_init_59 n) l0 l1 (7 : Int32) a4 a4 l1 a3 M5) else f_sm_init_88 (f_sm_init_59 n) l0 l1 (8 : Int32) a4 a4 l1 a3 M5
def f_sm_init (p0 : Nat) (M : Mem) : Option (Mem) :=
  nO M 10 4 fun a1 M2 => cV (f_se_init a1 M2) fun M3 => pR 11 0 M3 p0 a1 fun M4 => nO M4 9 6 fun a5 M6 => cV (f_rc_init a5 (6 : Int32) M6) fun M7 => pR 11 1 M7 p0 a5 fun M8 => nA M8 105 (6 : Int32) fun a9 M10 => pR 11 2 M10 p0 a9 fun M11 => nA M11 103 (45 : Int32) fun a12 M13 => pR 11 3 M13 p0 a12 fun M14 => nO M14 5 3 fun a15 M16 => cV (f_la_init a15 M16) fun M17 => pR 11 4 M17 p0 a15 fun M18 => f_sm_init_59 FU p0 (0 : Int32) M18
-- 12: PipelineSimulator$Plain.<init>(LPipelineSimulator$Simulation;)V
def f_pl_init (p0 : Nat) (p1 : Nat) (M : Mem) : Option (Mem) :=
  pR 7 0 M p0 p1 fun M1 => some M1
-- 13: PipelineSimulator$Explanation.<init>(LPipelineSimulator$Simulation;)V
def f_ex_init (p0 : Nat) (p1 : Nat) (M : Mem) : Option (Mem) :=
  nA M 100 (8 : Int32) fun a1 M2 => pR 2 1 M2 p0 a1 fun M3 => nA M3 100 (8 : Int32) fun a4 M5 => pR 2 2 M5 p0 a4 fun M6 => pR 2 0 M6 p0 p1 fun M7 => some M7
-- 14: PipelineSimulator.<init>()V
def f_x_init (p0 : Nat) (M : Mem) : Option (Mem) :=
  nO M 14 4 fun a1 M2 => cV (f_sb_init a1 M2) fun M3 => pR 12 0 M3 p0 a1 fun M4 => nO M4 14 4 fun a5 M6 => cV (f_sb_init a5 M6) fun M7 => pR 12 1 M7 p0 a5 fun M8 => nO M8 8 9 fun a9 M10 => gA 12 0 M10 p0 fun a11 => cV (f_rd_init a9 a11 M10) fun M12 => pR 12 2 M12 p0 a9 fun M13 => nO M13 11 15 fun a14 M15 => cV (f_sm_init a14 M15) fun M16 => pR 12 3 M16 p0 a14 fun M17 => nO M17 7 2 fun a18 M19 => gA 12 3 M19 p0 fun a20 => cV (f_pl_init a18 a20 M19) fun M21 => pR 12 4 M21 p0 a18 fun M22 => nO M22 2 4 fun a23 M24 => gA 12 3 M24 p0 fun a25 => cV (f_ex_init a23 a25 M24) fun M26 => pR 12 5 M26 p0 a23 fun M27 => some M27
-- 15: PipelineSimulatorModel.<init>()V
def f_m_init (p0 : Nat) (M : Mem) : Option (Mem) :=
  nA M 100 (60 : Int32) fun a1 M2 => pR 13 0 M2 p0 a1 fun M3 => nA M3 100 (6 : Int32) fun a4 M5 => pR 13 3 M5 p0 a4 fun M6 => nA M6 100 (6 : Int32) fun a7 M8 => pR 13 4 M8 p0 a7 fun M9 => nA M9 100 (6 : Int32) fun a10 M11 => pR 13 5 M11 p0 a10 fun M12 => nA M12 100 (6 : Int32) fun a13 M14 => pR 13 6 M14 p0 a13 fun M15 => pI 13 7 M15 p0 (2 : Int32) fun M16 => pI 13 8 M16 p0 (3 : Int32) fun M17 => pI 13 9 M17 p0 (2 : Int32) fun M18 => pI 13 10 M18 p0 (2 : Int32) fun M19 => nA M19 100 (60 : Int32) fun a20 M21 => pR 13 11 M21 p0 a20 fun M22 => nA M22 100 (60 : Int32) fun a23 M24 => pR 13 12 M24 p0 a23 fun M25 => nA M25 100 (6 : Int32) fun a26 M27 => pR 13 20 M27 p0 a26 fun M28 => nA M28 100 (6 : Int32) fun a29 M30 => pR 13 21 M30 p0 a29 fun M31 => nA M31 100 (6 : Int32) fun a32 M33 => pR 13 22 M33 p0 a32 fun M34 => nA M34 100 (6 : Int32) fun a35 M36 => pR 13 23 M36 p0 a35 fun M37 => nA M37 102 (96 : Int32) fun a38 M39 => pR 13 24 M39 p0 a38 fun M40 => nA M40 102 (96 : Int32) fun a41 M42 => pR 13 25 M42 p0 a41 fun M43 => nA M43 102 (96 : Int32) fun a44 M45 => pR 13 26 M45 p0 a44 fun M46 => nA M46 100 (96 : Int32) fun a47 M48 => pR 13 27 M48 p0 a47 fun M49 => nA M49 100 (96 : Int32) fun a50 M51 => pR 13 28 M51 p0 a50 fun M52 => nA M52 100 (96 : Int32) fun a53 M54 => pR 13 29 M54 p0 a53 fun M55 => nA M55 100 (96 : Int32) fun a56 M57 => pR 13 30 M57 p0 a56 fun M58 => nA M58 100 (96 : Int32) fun a59 M60 => pR 13 31 M60 p0 a59 fun M61 => nA M61 100 (96 : Int32) fun a62 M63 => pR 13 32 M63 p0 a62 fun M64 => nA M64 100 (18 : Int32) fun a65 M66 => pR 13 33 M66 p0 a65 fun M67 => nA M67 100 (18 : Int32) fun a68 M69 => pR 13 34 M69 p0 a68 fun M70 => nA M70 100 (18 : Int32) fun a71 M72 => pR 13 35 M72 p0 a71 fun M73 => nA M73 100 (18 : Int32) fun a74 M75 => pR 13 39 M75 p0 a74 fun M76 => nA M76 100 (54 : Int32) fun a77 M78 => pR 13 40 M78 p0 a77 fun M79 => nA M79 100 (54 : Int32) fun a80 M81 => pR 13 41 M81 p0 a80 fun M82 => nA M82 100 (54 : Int32) fun a83 M84 => pR 13 42 M84 p0 a83 fun M85 => nA M85 100 (18 : Int32) fun a86 M87 => pR 13 43 M87 p0 a86 fun M88 => nA M88 100 (18 : Int32) fun a89 M90 => pR 13 44 M90 p0 a89 fun M91 => nA M91 102 (18 : Int32) fun a92 M93 => pR 13 45 M93 p0 a92 fun M94 => nA M94 100 (54 : Int32) fun a95 M96 => pR 13 46 M96 p0 a95 fun M97 => nA M97 100 (54 : Int32) fun a98 M99 => pR 13 47 M99 p0 a98 fun M100 => nA M100 100 (216 : Int32) fun a101 M102 => pR 13 48 M102 p0 a101 fun M103 => nA M103 100 (216 : Int32) fun a104 M105 => pR 13 49 M105 p0 a104 fun M106 => nA M106 100 (216 : Int32) fun a107 M108 => pR 13 50 M108 p0 a107 fun M109 => nA M109 100 (54 : Int32) fun a110 M111 => pR 13 51 M111 p0 a110 fun M112 => nA M112 100 (54 : Int32) fun a113 M114 => pR 13 52 M114 p0 a113 fun M115 => nA M115 100 (216 : Int32) fun a116 M117 => pR 13 53 M117 p0 a116 fun M118 => nA M118 100 (864 : Int32) fun a119 M120 => pR 13 54 M120 p0 a119 fun M121 => nA M121 100 (864 : Int32) fun a122 M123 => pR 13 55 M123 p0 a122 fun M124 => nA M124 100 (864 : Int32) fun a125 M126 => pR 13 56 M126 p0 a125 fun M127 => nA M127 100 (40000 : Int32) fun a128 M129 => pR 13 57 M129 p0 a128 fun M130 => nA M130 100 (6 : Int32) fun a131 M132 => pR 13 62 M132 p0 a131 fun M133 => nA M133 100 (6 : Int32) fun a134 M135 => pR 13 63 M135 p0 a134 fun M136 => nA M136 100 (6 : Int32) fun a137 M138 => pR 13 64 M138 p0 a137 fun M139 => nA M139 100 (6 : Int32) fun a140 M141 => pR 13 65 M141 p0 a140 fun M142 => nA M142 100 (3 : Int32) fun a143 M144 => pR 13 66 M144 p0 a143 fun M145 => nA M145 100 (3 : Int32) fun a146 M147 => pR 13 67 M147 p0 a146 fun M148 => nA M148 102 (96 : Int32) fun a149 M150 => pR 13 69 M150 p0 a149 fun M151 => nA M151 100 (96 : Int32) fun a152 M153 => pR 13 70 M153 p0 a152 fun M154 => nA M154 100 (96 : Int32) fun a155 M156 => pR 13 71 M156 p0 a155 fun M157 => nA M157 100 (30 : Int32) fun a158 M159 => pR 13 72 M159 p0 a158 fun M160 => nA M160 100 (30 : Int32) fun a161 M162 => pR 13 73 M162 p0 a161 fun M163 => nA M163 100 (30 : Int32) fun a164 M165 => pR 13 74 M165 p0 a164 fun M166 => nA M166 100 (8 : Int32) fun a167 M168 => pR 13 75 M168 p0 a167 fun M169 => nA M169 100 (8 : Int32) fun a170 M171 => pR 13 76 M171 p0 a170 fun M172 => nA M172 100 (80 : Int32) fun a173 M174 => pR 13 79 M174 p0 a173 fun M175 => gA 13 3 M175 p0 fun a176 => sI M175 a176 (0 : Int32) (7 : Int32) fun M177 => gA 13 3 M177 p0 fun a178 => sI M177 a178 (1 : Int32) (8 : Int32) fun M179 => gA 13 6 M179 p0 fun a180 => sI M179 a180 (0 : Int32) (1 : Int32) fun M181 => gA 13 6 M181 p0 fun a182 => sI M181 a182 (1 : Int32) (1 : Int32) fun M183 => some M183
-- 16: java/lang/AbstractStringBuilder.length()I
def f_ab_length (p0 : Nat) (M : Mem) : Option (Int32 × Mem) :=
  gI 14 3 M p0 fun v1 => some (v1, M)
-- 17: java/lang/StringBuilder.length()I
def f_sb_length (p0 : Nat) (M : Mem) : Option (Int32 × Mem) :=
  ck M p0 14 <| cI (f_ab_length p0 M) fun v2 M1 => some (v2, M1)
-- 18: java/lang/Math.max(II)I
def f_ma_max (p0 : Int32) (p1 : Int32) (M : Mem) : Option (Int32 × Mem) :=
  if p0 < p1 then (some (p1, M)) else some (p0, M)
-- 19: jdk/internal/util/ArraysSupport.newLength(III)I
def f_as_newLength (p0 : Int32) (p1 : Int32) (p2 : Int32) (M : Mem) : Option (Int32 × Mem) :=
  cI (f_ma_max p1 p2 M) fun v2 M1 => if (p0 + v2) ≤ (0 : Int32) then none else if (2147483639 : Int32) < (p0 + v2) then none else some ((p0 + v2), M1)
-- 20: java/lang/AbstractStringBuilder.newCapacity(I)I
def f_ab_newCapacity (p0 : Nat) (p1 : Int32) (M : Mem) : Option (Int32 × Mem) :=
  gA 14 0 M p0 fun a1 => aN M a1 fun v2 => gI 14 1 M p0 fun v3 => gI 14 1 M p0 fun v4 => cI (f_as_newLength v2 ((p1 <<< (v3 &&& 31)) - v2) (v2 + ((2 : Int32) <<< (v4 &&& 31))) M) fun v6 M5 => if v6 = (2147483647 : Int32) then none else gI 14 1 M5 p0 fun v7 => some ((v6 >>> (v7 &&& 31)), M5)
-- 21: java/lang/Math.min(II)I
def f_ma_min (p0 : Int32) (p1 : Int32) (M : Mem) : Option (Int32 × Mem) :=
  if p1 < p0 then (some (p1, M)) else some (p0, M)
-- 22: java/util/Arrays.copyOf([BI)[B
def f_ar_copyOf0 (p0 : Nat) (p1 : Int32) (M : Mem) : Option (Option Nat × Mem) :=
  aN M p0 fun v1 => if p1 = v1 then none else nA M 101 p1 fun a2 M3 => aN M3 p0 fun v4 => cI (f_ma_min v4 p1 M3) fun v6 M5 => cpA M5 p0 (0 : Int32) a2 (0 : Int32) v6 fun M7 => some (some a2, M7)
-- 23: java/lang/AbstractStringBuilder.ensureCapacityInternal(I)V
def f_ab_ensureCapacityInternal (p0 : Nat) (p1 : Int32) (M : Mem) : Option (Mem) :=
  gA 14 0 M p0 fun a1 => aN M a1 fun v2 => gI 14 1 M p0 fun v3 => if (p1 - (v2 >>> (v3 &&& 31))) ≤ (0 : Int32) then (some M) else gA 14 0 M p0 fun a4 => ck M p0 14 <| cI (f_ab_newCapacity p0 p1 M) fun v6 M5 => gI 14 1 M5 p0 fun v7 => cR (f_ar_copyOf0 a4 (v6 <<< (v7 &&& 31)) M5) fun o9 M8 => onR o9 none (fun a10 => pR 14 0 M8 p0 a10 fun M12 => some M12)
-- 24: java/lang/AbstractStringBuilder.isLatin1()Z
def f_ab_isLatin1 (p0 : Nat) (M : Mem) : Option (Int32 × Mem) :=
  gI 14 1 M p0 fun v1 => if v1 = (0 : Int32) then (some ((1 : Int32), M)) else some ((0 : Int32), M)
-- 25: java/lang/StringLatin1.canEncode(C)Z
def f_sl_canEncode0 (p0 : Int32) (M : Mem) : Option (Int32 × Mem) :=
  if (255 : Int32) < p0 then (some ((0 : Int32), M)) else some ((1 : Int32), M)
-- 26: java/lang/AbstractStringBuilder.append(C)Ljava/lang/AbstractStringBuilder;
def f_ab_append0_45 (l0 : Nat) (l1 : Int32) (M : Mem) : Option (Option Nat × Mem) :=
  ck M l0 14 <| cI (f_ab_isLatin1 l0 M) fun v2 M1 => if v2 = (0 : Int32) then (gA 14 0 M1 l0 fun a3 => gI 14 3 M1 l0 fun v4 => pI 14 3 M1 l0 (v4 + (1 : Int32)) fun M5 => none) else none
def f_ab_append0 (p0 : Nat) (p1 : Int32) (M : Mem) : Option (Option Nat × Mem) :=
  gI 14 3 M p0 fun v1 => ck M p0 14 <| cV (f_ab_ensureCapacityInternal p0 (v1 + (1 : Int32)) M) fun M2 => ck M2 p0 14 <| cI (f_ab_isLatin1 p0 M2) fun v4 M3 => if v4 = (0 : Int32) then (f_ab_append0_45 p0 p1 M3) else cI (f_sl_canEncode0 p1 M3) fun v6 M5 => if v6 = (0 : Int32) then (f_ab_append0_45 p0 p1 M5) else gA 14 0 M5 p0 fun a7 => gI 14 3 M5 p0 fun v8 => pI 14 3 M5 p0 (v8 + (1 : Int32)) fun M9 => sB M9 a7 v8 p1.toInt8.toInt32 fun M10 => some (some p0, M10)
-- 27: java/lang/StringBuilder.append(C)Ljava/lang/StringBuilder;
def f_sb_append0 (p0 : Nat) (p1 : Int32) (M : Mem) : Option (Option Nat × Mem) :=
  ck M p0 14 <| cR (f_ab_append0 p0 p1 M) fun o2 M1 => onR o2 (some (some p0, M1)) (fun a3 => some (some p0, M1))
-- 28: PipelineSimulator.append(II)I
def f_x_append_43 : Nat → Nat → Int32 → Int32 → Int32 → Mem → Option (Int32 × Mem)
  | 0, _, _, _, _, _ => none
  | n + 1, l0, l1, l2, l3, M => if l2 ≤ l3 then (gA 12 0 M l0 fun a1 => ck M a1 14 <| cI (f_sb_length a1 M) fun v3 M2 => some (v3, M2)) else gA 12 0 M l0 fun a4 => ck M a4 14 <| cR (f_sb_append0 a4 (l1.toUInt32 % 65536).toInt32 M) fun o6 M5 => onR o6 (f_x_append_43 n l0 l1 l2 (l3 + (1 : Int32)) M5) (fun a7 => f_x_append_43 n l0 l1 l2 (l3 + (1 : Int32)) M5)
def f_x_append (p0 : Nat) (p1 : Int32) (p2 : Int32) (M : Mem) : Option (Int32 × Mem) :=
  if p1 < (0 : Int32) then (some ((-1000000002 : Int32), M)) else if (127 : Int32) < p1 then (some ((-1000000002 : Int32), M)) else if p2 < (1 : Int32) then (some ((-1000000002 : Int32), M)) else if p2 ≤ (60 : Int32) then (gA 12 0 M p0 fun a1 => ck M a1 14 <| cI (f_sb_length a1 M) fun v3 M2 => if (v3 + p2) ≤ (60 : Int32) then (f_x_append_43 FU p0 p1 p2 (0 : Int32) M2) else some ((-1000000003 : Int32), M2)) else some ((-1000000002 : Int32), M)
-- 29: PipelineSimulatorModel.isIn(III)Z
def f_m_isIn (p0 : Int32) (p1 : Int32) (p2 : Int32) (M : Mem) : Option (Int32 × Mem) :=
  if p0 < p1 then (some ((0 : Int32), M)) else if p2 < p0 then (some ((0 : Int32), M)) else some ((1 : Int32), M)
-- 30: PipelineSimulatorModel.append(II)I
def f_m_append_39 : Nat → Nat → Int32 → Int32 → Int32 → Mem → Option (Int32 × Mem)
  | 0, _, _, _, _, _ => none
  | n + 1, l0, l1, l2, l3, M => if l2 ≤ l3 then (gI 13 1 M l0 fun v1 => some (v1, M)) else gA 13 0 M l0 fun a2 => gI 13 1 M l0 fun v3 => sI M a2 v3 l1 fun M4 => gI 13 1 M4 l0 fun v5 => pI 13 1 M4 l0 (v5 + (1 : Int32)) fun M6 => f_m_append_39 n l0 l1 l2 (l3 + (1 : Int32)) M6
def f_m_append (p0 : Nat) (p1 : Int32) (p2 : Int32) (M : Mem) : Option (Int32 × Mem) :=
  cI (f_m_isIn p1 (0 : Int32) (127 : Int32) M) fun v2 M1 => if v2 = (0 : Int32) then (some ((-1000000002 : Int32), M1)) else cI (f_m_isIn p2 (1 : Int32) (60 : Int32) M1) fun v4 M3 => if v4 = (0 : Int32) then (some ((-1000000002 : Int32), M3)) else gI 13 1 M3 p0 fun v5 => if (v5 + p2) ≤ (60 : Int32) then (f_m_append_39 FU p0 p1 p2 (0 : Int32) M3) else some ((-1000000003 : Int32), M3)
-- 31: jdk/internal/util/Preconditions.checkIndex(IILjava/util/function/BiFunction;)I
def f_pc_checkIndex (p0 : Int32) (p1 : Int32) (M : Mem) : Option (Int32 × Mem) :=
  if p0 < (0 : Int32) then none else if p0 < p1 then (some (p0, M)) else none
-- 32: java/lang/String.checkIndex(II)V
def f_st_checkIndex (p0 : Int32) (p1 : Int32) (M : Mem) : Option (Mem) :=
  cI (f_pc_checkIndex p0 p1 M) fun v2 M1 => some M1
-- 33: java/lang/AbstractStringBuilder.charAt(I)C
def f_ab_charAt (p0 : Nat) (p1 : Int32) (M : Mem) : Option (Int32 × Mem) :=
  gI 14 1 M p0 fun v1 => gA 14 0 M p0 fun a2 => gI 14 3 M p0 fun v3 => aN M a2 fun v4 => cI (f_ma_min v3 (v4 >>> (v1 &&& 31)) M) fun v6 M5 => cV (f_st_checkIndex p1 v6 M5) fun M7 => if v1 = (0 : Int32) then (aB M7 a2 p1 fun v8 => nrZ .char ((v8 &&& (255 : Int32)).toUInt32 % 65536).toInt32 (some (((v8 &&& (255 : Int32)).toUInt32 % 65536).toInt32, M7))) else none
-- 34: java/lang/StringBuilder.charAt(I)C
def f_sb_charAt (p0 : Nat) (p1 : Int32) (M : Mem) : Option (Int32 × Mem) :=
  ck M p0 14 <| cI (f_ab_charAt p0 p1 M) fun v2 M1 => nrZ .char v2 (some (v2, M1))
-- 35: PipelineSimulator$Reader.sign()I
def f_rd_sign (p0 : Nat) (M : Mem) : Option (Int32 × Mem) :=
  gI 8 7 M p0 fun v1 => if v1 < (0 : Int32) then (some ((-1 : Int32), M)) else gI 8 7 M p0 fun v2 => gA 8 0 M p0 fun a3 => ck M a3 14 <| cI (f_sb_length a3 M) fun v5 M4 => if v2 < v5 then (gA 8 0 M4 p0 fun a6 => gI 8 7 M4 p0 fun v7 => ck M4 a6 14 <| cI (f_sb_charAt a6 v7 M4) fun v9 M8 => some (v9, M8)) else some ((-1 : Int32), M4)
-- 36: java/lang/String.isLatin1()Z
def f_st_isLatin1  (M : Mem) : Option (Int32 × Mem) :=
  some ((1 : Int32), M)
-- 37: java/lang/String.coder()B
def f_st_coder  (M : Mem) : Option (Int32 × Mem) :=
  some ((0 : Int32), M)
-- 38: java/lang/String.length()I
def f_st_length  (M : Mem) : Option (Int32 × Mem) :=
  cI (f_st_coder M) fun v2 M1 => some (((7 : Int32) >>> (v2 &&& 31)), M1)
-- 39: java/lang/StringLatin1.canEncode(I)Z
def f_sl_canEncode1 (p0 : Int32) (M : Mem) : Option (Int32 × Mem) :=
  if p0 < (0 : Int32) then (some ((0 : Int32), M)) else if (255 : Int32) < p0 then (some ((0 : Int32), M)) else some ((1 : Int32), M)
-- 40: java/lang/StringLatin1.indexOfChar([BIII)I
def f_sl_indexOfChar_7 : Nat → Int32 → Int32 → Int32 → Mem → Option (Int32 × Mem)
  | 0, _, _, _, _ => none
  | n + 1, l3, l4, l5, M => if l3 ≤ l5 then (some ((-1 : Int32), M)) else aO 4 l5 fun v1 => if v1 = l4 then (some (l5, M)) else f_sl_indexOfChar_7 n l3 l4 (l5 + (1 : Int32)) M
def f_sl_indexOfChar (p1 : Int32) (p2 : Int32) (p3 : Int32) (M : Mem) : Option (Int32 × Mem) :=
  f_sl_indexOfChar_7 FU p3 p1.toInt8.toInt32 p2 M
-- 41: java/lang/StringLatin1.indexOf([BIII)I
def f_sl_indexOf (p1 : Int32) (p2 : Int32) (p3 : Int32) (M : Mem) : Option (Int32 × Mem) :=
  cI (f_sl_canEncode1 p1 M) fun v2 M1 => if v2 = (0 : Int32) then (some ((-1 : Int32), M1)) else cI (f_ma_max p2 (0 : Int32) M1) fun v4 M3 => cI (f_ma_min p3 (7 : Int32) M3) fun v6 M5 => if v4 < v6 then (cI (f_sl_indexOfChar p1 v4 v6 M5) fun v8 M7 => some (v8, M7)) else some ((-1 : Int32), M5)
-- 42: java/lang/String.indexOf(II)I
def f_st_indexOf0 (p1 : Int32) (p2 : Int32) (M : Mem) : Option (Int32 × Mem) :=
  cI (f_st_isLatin1 M) fun v2 M1 => if v2 = (0 : Int32) then (cI (f_st_length M1) fun v4 M3 => none) else cI (f_st_length M1) fun v6 M5 => cI (f_sl_indexOf p1 p2 v6 M5) fun v8 M7 => some (v8, M7)
-- 43: java/lang/String.indexOf(I)I
def f_st_indexOf1 (p1 : Int32) (M : Mem) : Option (Int32 × Mem) :=
  cI (f_st_indexOf0 p1 (0 : Int32) M) fun v2 M1 => some (v2, M1)
-- 44: PipelineSimulator.numbersOf(I)I
def f_x_numbersOf (p0 : Int32) (M : Mem) : Option (Int32 × Mem) :=
  if p0 = (0 : Int32) then (some ((2 : Int32), M)) else if p0 = (1 : Int32) then (some ((2 : Int32), M)) else if p0 = (2 : Int32) then (some ((2 : Int32), M)) else if p0 = (3 : Int32) then (some ((1 : Int32), M)) else if p0 = (4 : Int32) then (some ((1 : Int32), M)) else some ((0 : Int32), M)
-- 45: PipelineSimulator$Reader.skip(C)Z
def f_rd_skip (p0 : Nat) (p1 : Int32) (M : Mem) : Option (Int32 × Mem) :=
  ck M p0 8 <| cI (f_rd_sign p0 M) fun v2 M1 => if v2 = p1 then (gI 8 7 M1 p0 fun v3 => pI 8 7 M1 p0 (v3 + (1 : Int32)) fun M4 => some ((1 : Int32), M4)) else some ((0 : Int32), M1)
-- 46: PipelineSimulator$Reader.atDigit()Z
def f_rd_atDigit (p0 : Nat) (M : Mem) : Option (Int32 × Mem) :=
  ck M p0 8 <| cI (f_rd_sign p0 M) fun v2 M1 => if v2 < (48 : Int32) then (some ((0 : Int32), M1)) else ck M1 p0 8 <| cI (f_rd_sign p0 M1) fun v4 M3 => if (57 : Int32) < v4 then (some ((0 : Int32), M3)) else some ((1 : Int32), M3)
-- 47: PipelineSimulator$Reader.readNumber()Z
def f_rd_readNumber_73 (l0 : Nat) (l1 : Int32) (M : Mem) : Option (Int32 × Mem) :=
  if l1 = (0 : Int32) then (some ((1 : Int32), M)) else gI 8 8 M l0 fun v1 => pI 8 8 M l0 (-v1) fun M2 => some ((1 : Int32), M2)
def f_rd_readNumber (p0 : Nat) (M : Mem) : Option (Int32 × Mem) :=
  ck M p0 8 <| cI (f_rd_skip p0 (45 : Int32) M) fun v2 M1 => ck M1 p0 8 <| cI (f_rd_atDigit p0 M1) fun v4 M3 => if v4 = (0 : Int32) then (some ((0 : Int32), M3)) else ck M3 p0 8 <| cI (f_rd_sign p0 M3) fun v6 M5 => pI 8 8 M5 p0 (v6 - (48 : Int32)) fun M7 => gI 8 7 M7 p0 fun v8 => pI 8 7 M7 p0 (v8 + (1 : Int32)) fun M9 => ck M9 p0 8 <| cI (f_rd_atDigit p0 M9) fun v11 M10 => if v11 = (0 : Int32) then (f_rd_readNumber_73 p0 v2 M10) else gI 8 8 M10 p0 fun v12 => ck M10 p0 8 <| cI (f_rd_sign p0 M10) fun v14 M13 => pI 8 8 M13 p0 (((v12 * (10 : Int32)) + v14) - (48 : Int32)) fun M15 => gI 8 7 M15 p0 fun v16 => pI 8 7 M15 p0 (v16 + (1 : Int32)) fun M17 => f_rd_readNumber_73 p0 v2 M17
-- 48: PipelineSimulator$Reader.inRange(I)Z
def f_rd_inRange (p0 : Nat) (p1 : Int32) (M : Mem) : Option (Int32 × Mem) :=
  if p1 = (1 : Int32) then (gI 8 8 M p0 fun v1 => if v1 < (0 : Int32) then (some ((0 : Int32), M)) else gI 8 8 M p0 fun v2 => if (2 : Int32) < v2 then (some ((0 : Int32), M)) else some ((1 : Int32), M)) else if p1 = (2 : Int32) then (some ((1 : Int32), M)) else if p1 = (3 : Int32) then (gI 8 8 M p0 fun v3 => if v3 < (0 : Int32) then (some ((0 : Int32), M)) else gI 8 8 M p0 fun v4 => if (3 : Int32) < v4 then (some ((0 : Int32), M)) else some ((1 : Int32), M)) else if p1 = (4 : Int32) then (gI 8 8 M p0 fun v5 => if v5 < (1 : Int32) then (some ((0 : Int32), M)) else gI 8 8 M p0 fun v6 => if (5 : Int32) < v6 then (some ((0 : Int32), M)) else some ((1 : Int32), M)) else some ((1 : Int32), M)
-- 49: PipelineSimulator$Reader.atInstances()Z
def f_rd_atInstances (p0 : Nat) (M : Mem) : Option (Int32 × Mem) :=
  ck M p0 8 <| cI (f_rd_sign p0 M) fun v2 M1 => if v2 < (49 : Int32) then (some ((0 : Int32), M1)) else ck M1 p0 8 <| cI (f_rd_sign p0 M1) fun v4 M3 => if (51 : Int32) < v4 then (some ((0 : Int32), M3)) else some ((1 : Int32), M3)
-- 50: PipelineSimulator$Reader.readInstances()I
def f_rd_readInstances (p0 : Nat) (M : Mem) : Option (Int32 × Mem) :=
  ck M p0 8 <| cI (f_rd_atInstances p0 M) fun v2 M1 => if v2 = (0 : Int32) then (some ((1 : Int32), M1)) else ck M1 p0 8 <| cI (f_rd_sign p0 M1) fun v4 M3 => gI 8 7 M3 p0 fun v5 => pI 8 7 M3 p0 (v5 + (1 : Int32)) fun M6 => some ((v4 - (48 : Int32)), M6)
-- 51: PipelineSimulator$Reader.readStage(I)Z
def f_rd_readStage_159 (l0 : Nat) (l1 : Int32) (M : Mem) : Option (Int32 × Mem) :=
  gA 8 4 M l0 fun a1 => ck M l0 8 <| cI (f_rd_readInstances l0 M) fun v3 M2 => sI M2 a1 l1 v3 fun M4 => some ((1 : Int32), M4)
def f_rd_readStage_148 (l0 : Nat) (l1 : Int32) (M : Mem) : Option (Int32 × Mem) :=
  ck M l0 8 <| cI (f_rd_skip l0 (41 : Int32) M) fun v2 M1 => if v2 = (0 : Int32) then (some ((0 : Int32), M1)) else f_rd_readStage_159 l0 l1 M1
def f_rd_readStage_20 (l0 : Nat) (l1 : Int32) (s0 : Int32) (M : Mem) : Option (Int32 × Mem) :=
  if s0 < (0 : Int32) then (some ((0 : Int32), M)) else if l1 < (0 : Int32) then (some ((0 : Int32), M)) else if l1 < (4 : Int32) then (gI 8 7 M l0 fun v1 => pI 8 7 M l0 (v1 + (1 : Int32)) fun M2 => gA 8 1 M2 l0 fun a3 => sI M2 a3 l1 s0 fun M4 => gA 8 2 M4 l0 fun a5 => sI M4 a5 l1 (0 : Int32) fun M6 => gA 8 3 M6 l0 fun a7 => sI M6 a7 l1 (0 : Int32) fun M8 => cI (f_x_numbersOf s0 M8) fun v10 M9 => if v10 ≤ (0 : Int32) then (f_rd_readStage_159 l0 l1 M9) else ck M9 l0 8 <| cI (f_rd_skip l0 (40 : Int32) M9) fun v12 M11 => if v12 = (0 : Int32) then (some ((0 : Int32), M11)) else ck M11 l0 8 <| cI (f_rd_readNumber l0 M11) fun v14 M13 => if v14 = (0 : Int32) then (some ((0 : Int32), M13)) else ck M13 l0 8 <| cI (f_rd_inRange l0 s0 M13) fun v16 M15 => if v16 = (0 : Int32) then (some ((0 : Int32), M15)) else gA 8 2 M15 l0 fun a17 => gI 8 8 M15 l0 fun v18 => sI M15 a17 l1 v18 fun M19 => if v10 ≤ (1 : Int32) then (f_rd_readStage_148 l0 l1 M19) else ck M19 l0 8 <| cI (f_rd_skip l0 (44 : Int32) M19) fun v21 M20 => if v21 = (0 : Int32) then (some ((0 : Int32), M20)) else ck M20 l0 8 <| cI (f_rd_readNumber l0 M20) fun v23 M22 => if v23 = (0 : Int32) then (some ((0 : Int32), M22)) else gA 8 3 M22 l0 fun a24 => gI 8 8 M22 l0 fun v25 => sI M22 a24 l1 v25 fun M26 => f_rd_readStage_148 l0 l1 M26) else some ((0 : Int32), M)
def f_rd_readStage (p0 : Nat) (p1 : Int32) (M : Mem) : Option (Int32 × Mem) :=
  ck M p0 8 <| cI (f_rd_sign p0 M) fun v2 M1 => if (0 : Int32) ≤ v2 then (cI (f_st_indexOf1 (v2.toUInt32 % 65536).toInt32 M1) fun v4 M3 => f_rd_readStage_20 p0 p1 v4 M3) else f_rd_readStage_20 p0 p1 (-1 : Int32) M1
-- 52: PipelineSimulator$Reader.readStages()Z
def f_rd_readStages_32 (k2 : Nat → Int32 → Mem → Option (Int32 × Mem)) (l0 : Nat) (l1 : Int32) (M : Mem) : Option (Int32 × Mem) :=
  ck M l0 8 <| cI (f_rd_readStage l0 l1 M) fun v2 M1 => if v2 = (0 : Int32) then (some ((0 : Int32), M1)) else pI 8 5 M1 l0 (l1 + (1 : Int32)) fun M3 => k2 l0 (l1 + (1 : Int32)) M3
def f_rd_readStages_2 : Nat → Nat → Int32 → Mem → Option (Int32 × Mem)
  | 0, _, _, _ => none
  | n + 1, l0, l1, M => if (4 : Int32) ≤ l1 then (some ((1 : Int32), M)) else if l1 ≤ (0 : Int32) then (f_rd_readStages_32 (f_rd_readStages_2 n) l0 l1 M) else ck M l0 8 <| cI (f_rd_sign l0 M) fun v2 M1 => if v2 = (124 : Int32) then (gI 8 7 M1 l0 fun v3 => pI 8 7 M1 l0 (v3 + (1 : Int32)) fun M4 => f_rd_readStages_32 (f_rd_readStages_2 n) l0 l1 M4) else some ((1 : Int32), M1)
def f_rd_readStages (p0 : Nat) (M : Mem) : Option (Int32 × Mem) :=
  f_rd_readStages_2 FU p0 (0 : Int32) M
-- 53: PipelineSimulator$Reader.readAll()Z
def f_rd_readAll_76 (l0 : Nat) (M : Mem) : Option (Int32 × Mem) :=
  ck M l0 8 <| cI (f_rd_sign l0 M) fun v2 M1 => if (0 : Int32) ≤ v2 then (some ((0 : Int32), M1)) else some ((1 : Int32), M1)
def f_rd_readAll_40 (l0 : Nat) (M : Mem) : Option (Int32 × Mem) :=
  ck M l0 8 <| cI (f_rd_sign l0 M) fun v2 M1 => if v2 = (36 : Int32) then (gI 8 7 M1 l0 fun v3 => pI 8 7 M1 l0 (v3 + (1 : Int32)) fun M4 => ck M4 l0 8 <| cI (f_rd_atInstances l0 M4) fun v6 M5 => if v6 = (0 : Int32) then (some ((0 : Int32), M5)) else ck M5 l0 8 <| cI (f_rd_readInstances l0 M5) fun v8 M7 => pI 8 6 M7 l0 v8 fun M9 => f_rd_readAll_76 l0 M9) else f_rd_readAll_76 l0 M1
def f_rd_readAll (p0 : Nat) (M : Mem) : Option (Int32 × Mem) :=
  pI 8 7 M p0 (0 : Int32) fun M1 => pI 8 5 M1 p0 (0 : Int32) fun M2 => pI 8 6 M2 p0 (1 : Int32) fun M3 => ck M3 p0 8 <| cI (f_rd_sign p0 M3) fun v5 M4 => if v5 = (36 : Int32) then (f_rd_readAll_40 p0 M4) else ck M4 p0 8 <| cI (f_rd_sign p0 M4) fun v7 M6 => if v7 < (0 : Int32) then (f_rd_readAll_40 p0 M6) else ck M6 p0 8 <| cI (f_rd_readStages p0 M6) fun v9 M8 => if v9 = (0 : Int32) then (some ((0 : Int32), M8)) else f_rd_readAll_40 p0 M8
-- 54: java/lang/AbstractStringBuilder.setLength(I)V
def f_ab_setLength_76 (l0 : Nat) (l1 : Int32) (M : Mem) : Option (Mem) :=
  pI 14 3 M l0 l1 fun M1 => some M1
def f_ab_setLength (p0 : Nat) (p1 : Int32) (M : Mem) : Option (Mem) :=
  if (0 : Int32) ≤ p1 then (ck M p0 14 <| cV (f_ab_ensureCapacityInternal p0 p1 M) fun M1 => gI 14 3 M1 p0 fun v2 => if p1 ≤ v2 then (gI 14 3 M1 p0 fun v3 => if v3 ≤ p1 then (f_ab_setLength_76 p0 p1 M1) else pZ 14 2 M1 p0 (1 : Int32) fun M4 => f_ab_setLength_76 p0 p1 M4) else ck M1 p0 14 <| cI (f_ab_isLatin1 p0 M1) fun v6 M5 => if v6 = (0 : Int32) then (gA 14 0 M5 p0 fun a7 => gI 14 3 M5 p0 fun v8 => none) else gA 14 0 M5 p0 fun a9 => gI 14 3 M5 p0 fun v10 => none) else none
-- 55: java/lang/StringBuilder.setLength(I)V
def f_sb_setLength (p0 : Nat) (p1 : Int32) (M : Mem) : Option (Mem) :=
  ck M p0 14 <| cV (f_ab_setLength p0 p1 M) fun M1 => some M1
-- 56: PipelineSimulator$Simulation.operatorAt(I)LPipelineSimulator$Operator;
def f_sm_operatorAt (p0 : Nat) (p1 : Int32) (M : Mem) : Option (Option Nat × Mem) :=
  if p1 < (0 : Int32) then (some (none, M)) else gI 11 5 M p0 fun v1 => if (v1 + (1 : Int32)) < p1 then (some (none, M)) else gA 11 2 M p0 fun a2 => aN M a2 fun v3 => if p1 < v3 then (gA 11 2 M p0 fun a4 => aA M a4 p1 fun a5 => some (some a5, M)) else some (none, M)
-- 57: java/util/Arrays.fill([II)V
def f_ar_fill_5 : Nat → Nat → Int32 → Int32 → Int32 → Mem → Option (Mem)
  | 0, _, _, _, _, _ => none
  | n + 1, l0, l1, l2, l3, M => if l3 ≤ l2 then (some M) else sI M l0 l2 l1 fun M1 => f_ar_fill_5 n l0 l1 (l2 + (1 : Int32)) l3 M1
def f_ar_fill (p0 : Nat) (p1 : Int32) (M : Mem) : Option (Mem) :=
  aN M p0 fun v1 => f_ar_fill_5 FU p0 p1 (0 : Int32) v1 M
-- 58: PipelineSimulator$Keyed.wipe()V
def f_ky_wipe (p0 : Nat) (M : Mem) : Option (Mem) :=
  gA 4 0 M p0 fun a1 => cV (f_ar_fill a1 (0 : Int32) M) fun M2 => gA 4 1 M2 p0 fun a3 => cV (f_ar_fill a3 (0 : Int32) M2) fun M4 => pI 4 2 M4 p0 (0 : Int32) fun M5 => some M5
-- 59: PipelineSimulator$Instance.resetCounters()V
def f_is_resetCounters (p0 : Nat) (M : Mem) : Option (Mem) :=
  pI 3 4 M p0 (0 : Int32) fun M1 => pI 3 6 M1 p0 (0 : Int32) fun M2 => some M2
