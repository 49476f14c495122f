/-! CALLS: readPipeline of the class, whole -/
section
variable {T T' : Tl} {I I' : Iw} {E E' : Env} {D D' : Dy} {Q Q' : Slow} {S : Sy} {g g' : Nat → Kst} {o i j s c r tk k m p : Nat} {l : List Int32}
/-- the reader holds what the text says -/
def Rdr (I : Iw) (cs : List Cf) (n : Nat) : Prop := I 5 5 = nI cs.length ∧ I 5 6 = nI n ∧ ∀ j (h : j < cs.length), Rw I j cs[j]
def rdE (l : List Int32) (p : Nat) (cs : List Cf) : Bool × Nat × List Cf × Nat :=
  if sg l p = 36 then (if dg3 (sg l (p + 1)) = false then (false, p + 1, [], 1) else (decide (sg l (p + 1 + 1) < 0), p + 1 + 1, cs, (sg l (p + 1) - 48).toNatClampNeg)) else (decide (sg l p < 0), p, cs, 1)
theorem rdA_e : rdA l = if (rdH l).1 = false then (false, (rdH l).2.1, [], 1) else rdE l (rdH l).2.1 (rdH l).2.2 := rfl
theorem kr_76 (h : Kr l I T p) : f_rd_readAll_76 5 ((I, T) : Mem) = some (nI (b01 (decide (sg l p < 0))), ((I, T) : Mem)) := by
  have k5 := h.1.2.2.2.2.2.2.2.2.2.1
  unfold f_rd_readAll_76
  rw [ck_t k5, kr_sign h, cI_x]
  by_cases hz : sg l p < 0
  · rw [if_neg (Int32.not_le.mpr hz), decide_eq_true hz]; rfl
  · rw [if_pos (Int32.not_lt.mp hz), decide_eq_false hz]; rfl
theorem kr_40 {cs : List Cf} (h : Kr l I T p) (hR : Rdr I cs 1) : ∃ I', f_rd_readAll_40 5 ((I, T) : Mem) = some (nI (b01 (rdE l p cs).1), ((I', T) : Mem)) ∧ (∀ a, (a < 5 ∨ 9 < a) → I' a = I a) ∧ I' 5 7 = nI (rdE l p cs).2.1 ∧ ((rdE l p cs).1 = true → Rdr I' (rdE l p cs).2.2.1 (rdE l p cs).2.2.2) := by
  have k5 := h.1.2.2.2.2.2.2.2.2.2.1
  unfold f_rd_readAll_40 rdE
  rw [ck_t k5, kr_sign h, cI_x]
  by_cases h36 : sg l p = 36
  case neg =>
    rw [if_neg h36, if_neg h36, kr_76 h]
    exact ⟨I, rfl, fun _ _ => rfl, h.2.2.2.2.1, fun _ => hR⟩
  rw [if_pos h36, if_pos h36, gI_t k5, h.2.2.2.2.1, show nI p + (1 : Int32) = nI (p + 1) from nI_1 _, pI_t k5]
  have K1 := Kr_7 h (show ¬ sg l p = m1 by rw [h36]; decide)
  rw [ck_t k5, kr_atInst K1, cI_x, b01_cs]
  cases hd : dg3 (sg l (p + 1)) with
  | false =>
    rw [if_pos rfl, if_neg (by decide)]
    exact ⟨_, rfl, fun a ha => u2_ne (by omega), K1.2.2.2.2.1, fun z => by cases z⟩
  | true =>
    obtain ⟨I2, e2, f2, K2, -, b1, b2⟩ := kr_inst K1
    have hf1 : fin1 l (p + 1) = (p + 1 + 1, (sg l (p + 1) - 48).toNatClampNeg) := if_pos hd
    rw [hf1] at e2 K2
    rw [if_pos (show true = true from rfl), if_neg (show ¬ true = false by decide), ck_t k5, e2, cI_x, pI_t k5]
    obtain ⟨I3, hI3⟩ : ∃ I3, I3 = u2 I2 5 6 (nI (sg l (p + 1) - 48).toNatClampNeg) := ⟨_, rfl⟩
    have K3 : Kr l I3 T (p + 1 + 1) := by rw [hI3]; exact Kr_row K2 (fun a ha => u2_ne (by omega)) (by rw [u2_nj rfl (by omega)]; exact K2.2.2.2.2.1) K2.2.2.2.2.2
    have g : ∀ a, a ≠ 5 → I3 a = I a := fun a ha => by rw [hI3, u2_ne ha, f2.1 a ha, u2_ne ha]
    rw [← hI3, kr_76 K3]
    refine ⟨I3, rfl, fun a ha => g a (by omega), K3.2.2.2.2.1, fun _ => ⟨?_, by rw [hI3]; exact u2_at rfl rfl, fun j hj => ?_⟩⟩
    · rw [hI3, u2_nj rfl (by omega), f2.2 5 (by omega) (by omega), u2_nj rfl (by omega)]; exact hR.1
    · have := hR.2.2 j hj
      unfold Rw at this ⊢
      rw [g 6 (by omega), g 7 (by omega), g 8 (by omega), g 9 (by omega)]
      exact this
theorem kr_all (shx : shX T) (hS : SbC I T 1 l) (hc : chk l) (hl : l.length ≤ 60) : ∃ I', f_rd_readAll 5 ((I, T) : Mem) = some (nI (b01 (rdA l).1), ((I', T) : Mem)) ∧ (∀ a, (a < 5 ∨ 9 < a) → I' a = I a) ∧ I' 5 7 = nI (rdA l).2.1 ∧ ((rdA l).1 = true → Rdr I' (rdA l).2.2.1 (rdA l).2.2.2) := by
  have k5 := shx.2.2.2.2.2.2.2.2.2.1
  obtain ⟨J, hJ⟩ : ∃ J, J = u2 (u2 (u2 I 5 7 (nI 0)) 5 5 (nI 0)) 5 6 (nI 1) := ⟨_, rfl⟩
  have gJ : ∀ a, a ≠ 5 → J a = I a := fun a ha => by rw [hJ, u2_ne ha, u2_ne ha, u2_ne ha]
  have J7 : J 5 7 = nI 0 := by rw [hJ, u2_nj rfl (by omega), u2_nj rfl (by omega)]; exact u2_at rfl rfl
  have J5 : J 5 5 = nI 0 := by rw [hJ, u2_nj rfl (by omega)]; exact u2_at rfl rfl
  have J6 : J 5 6 = nI 1 := by rw [hJ]; exact u2_at rfl rfl
  have K : Kr l J T 0 := by
    refine ⟨shx, SbC_cg hS (gJ 1 (by omega)) (fun tv htv => ?_), hc, hl, J7, Nat.zero_le _⟩
    obtain ⟨tv', t1, t2, t3, -⟩ := hS
    rw [t1] at htv
    cases htv
    exact gJ _ (by omega)
  have R0 : Rdr J [] 1 := ⟨J5, J6, fun j h => absurd h (Nat.not_lt_zero _)⟩
  unfold f_rd_readAll
  rw [pI_t k5, pI_t k5, pI_t k5, show (0 : Int32) = nI 0 from rfl, show (1 : Int32) = nI 1 from rfl, ← hJ, ck_t k5, kr_sign K, cI_x, rdA_e]
  have empty : sg l 0 = 36 ∨ sg l 0 < 0 → ∃ I', f_rd_readAll_40 5 ((J, T) : Mem) = some (nI (b01 (if (rdH l).1 = false then (false, (rdH l).2.1, [], 1) else rdE l (rdH l).2.1 (rdH l).2.2 : Bool × Nat × List Cf × Nat).1), ((I', T) : Mem)) ∧ (∀ a, (a < 5 ∨ 9 < a) → I' a = I a) ∧ I' 5 7 = nI (if (rdH l).1 = false then (false, (rdH l).2.1, [], 1) else rdE l (rdH l).2.1 (rdH l).2.2 : Bool × Nat × List Cf × Nat).2.1 ∧ ((if (rdH l).1 = false then (false, (rdH l).2.1, [], 1) else rdE l (rdH l).2.1 (rdH l).2.2 : Bool × Nat × List Cf × Nat).1 = true → Rdr I' (if (rdH l).1 = false then (false, (rdH l).2.1, [], 1) else rdE l (rdH l).2.1 (rdH l).2.2 : Bool × Nat × List Cf × Nat).2.2.1 (if (rdH l).1 = false then (false, (rdH l).2.1, [], 1) else rdE l (rdH l).2.1 (rdH l).2.2 : Bool × Nat × List Cf × Nat).2.2.2) := fun hz => by
    have hH : rdH l = (true, 0, []) := if_pos hz
    obtain ⟨I1, e1, f1, g1, v1⟩ := kr_40 K R0
    rw [hH, if_neg (by decide)]
    exact ⟨I1, e1, fun a ha => by rw [f1 a ha, gJ a (by omega)], g1, v1⟩
  by_cases h36 : sg l 0 = 36
  · rw [if_pos h36]
    exact empty (Or.inl h36)
  rw [if_neg h36, ck_t k5, kr_sign K, cI_x]
  by_cases hneg : sg l 0 < nI 0
  · rw [if_pos hneg]
    exact empty (Or.inr hneg)
  have hH : rdH l = rdL l 4 0 := if_neg (fun z => z.elim h36 hneg)
  obtain ⟨I1, e1, f1, g1, K1, v1, -⟩ := kr_32 (l := l) 3 0 0 199999 J (by omega) (by omega) K
  have ers : f_rd_readStages 5 ((J, T) : Mem) = some (nI (b01 (rdL l 4 0).1), ((I1, T) : Mem)) := by
    unfold f_rd_readStages
    rw [show FU = 199999 + 1 from rfl]
    unfold f_rd_readStages_2
    rw [if_neg (by decide), if_pos (by decide)]
    exact e1
  rw [if_neg hneg, ck_t k5, ers, cI_x, show nI 0 = (0 : Int32) from rfl, b01_cs, hH]
  cases hok : (rdL l 4 0).1 with
  | false =>
    rw [if_neg (show ¬ false = true by decide), if_pos (show false = false from rfl)]
    exact ⟨I1, rfl, fun a ha => by rw [f1 a ha, gJ a (by omega)], K1.2.2.2.2.1, fun z => by cases z⟩
  | true =>
    obtain ⟨v11, v12⟩ := v1 hok
    rw [Nat.zero_add] at v11
    have R1 : Rdr I1 (rdL l 4 0).2.2 1 := ⟨v11, by rw [g1]; exact J6, fun j hj => by
      have := v12 j hj
      rw [Nat.zero_add] at this
      exact this⟩
    obtain ⟨I2, e2, f2, g2, v2⟩ := kr_40 K1 R1
    rw [if_pos (show true = true from rfl), if_neg (show ¬ true = false by decide)]
    exact ⟨I2, e2, fun a ha => by rw [f2 a ha, f1 a ha, gJ a (by omega)], g2, v2⟩
theorem opAt_n (sh : shSm T) {N : Nat} (h5 : I 10 5 = nI N) (hN : N ≤ 4) (ho : o ≤ N + 1) : f_sm_operatorAt 10 (nI o) ((I, T) : Mem) = some (some (20 + 33 * o), ((I, T) : Mem)) := by
  have h2 := sh.2.2.2.2.2.2.2.2.2.2.2.2.2.1 o (by omega)
  unfold shSm at sh
  unfold f_sm_operatorAt
  simp (disch := omega) only [↓gI_t, ↓pI_t, ↓pZ_t, ↓ck_t, ↓aN_t, ↓cI_x, ↓cV_x, ↓cR_x, ↓onR_s, ↓onR_n, ↓nmI_t, ↓reduceIte, gA_t, aI_t, sI_t, aA_t, aB_t, sB_t, rmI_t, dvI_t, nI_add, pk_mul, pk_sub, nI_leI, nI_ltI, nI_eq, n_leT, n_leF, n_ltT, n_ltF, n_eqT, n_eqF, u2_ne, u2_at, u2_nj, r2_ne, r2_at, ↓i_neg1, m1_ne, m1_en, m1_lt, m1_le, m1_nlt, m1_nle, i_lits, true_and, and_true, sh, h5, h2]
/-- the config rows of the operators below m written -/
def Cw (I : Iw) (I' : Iw) (F : Nat → Cf) (m : Nat) : Prop := (∀ a, (∀ o, 1 ≤ o → o < m → a ≠ 20 + 33 * o) → I' a = I a) ∧ ∀ o, 1 ≤ o → o < m → (I' (20 + 33 * o) 6 = nI (F o).1 ∧ I' (20 + 33 * o) 7 = (F o).2.1 ∧ I' (20 + 33 * o) 8 = (F o).2.2.1 ∧ I' (20 + 33 * o) 9 = nI (F o).2.2.2) ∧ ∀ j, (j < 6 ∨ 9 < j) → I' (20 + 33 * o) j = I (20 + 33 * o) j
theorem Cw_step {F : Nat → Cf} (h1 : 1 ≤ m) (h : Cw I I' F m) : Cw I (u2 (u2 (u2 (u2 I' (20 + 33 * m) 6 (nI (F m).1)) (20 + 33 * m) 7 (F m).2.1) (20 + 33 * m) 8 (F m).2.2.1) (20 + 33 * m) 9 (nI (F m).2.2.2)) F (m + 1) := by
  obtain ⟨g1, g2⟩ := h
  have hm : I' (20 + 33 * m) = I (20 + 33 * m) := g1 _ (fun o h1 h2 => by omega)
  refine ⟨fun a ha => ?_, fun o h1' ho => ?_⟩
  · have hne := ha m h1 (Nat.lt_succ_self _)
    rw [u2_ne hne, u2_ne hne, u2_ne hne, u2_ne hne]
    exact g1 a (fun o h1 h2 => ha o h1 (by omega))
  · by_cases hz : o = m
    · subst hz
      refine ⟨⟨?_, ?_, ?_, u2_at rfl rfl⟩, fun j hj => ?_⟩
      · rw [u2_nj rfl (by omega), u2_nj rfl (by omega), u2_nj rfl (by omega)]; exact u2_at rfl rfl
      · rw [u2_nj rfl (by omega), u2_nj rfl (by omega)]; exact u2_at rfl rfl
      · rw [u2_nj rfl (by omega)]; exact u2_at rfl rfl
      · rw [u2_nj rfl (by omega), u2_nj rfl (by omega), u2_nj rfl (by omega), u2_nj rfl (by omega), hm]
    · have hne : 20 + 33 * o ≠ 20 + 33 * m := by omega
      rw [u2_ne hne, u2_ne hne, u2_ne hne, u2_ne hne]
      exact g2 o h1' (by omega)
theorem rep_loop (sh : shSm T) (shx : shX T) {cs : List Cf} {n : Nat} (hl : cs.length ≤ 4) (hR : Rdr I cs n) (E : Env) : ∀ (d n' i : Nat) (J : Iw), i + d = cs.length → d < n' → J 10 5 = nI cs.length → Cw I J (ncf cs n E) (i + 1) → ∃ J', f_sm_replacePipeline_10 n' 10 5 (nI i) ((J, T) : Mem) = f_sm_replacePipeline_96 10 ((J', T) : Mem) ∧ J' 10 5 = nI cs.length ∧ Cw I J' (ncf cs n E) (cs.length + 2)
  | d, 0, i, J, _, hn, _, _ => by omega
  | 0, n' + 1, i, J, hi, hn, h5, hC => by
    have e : i = cs.length := by omega
    subst e
    have ksm := sh.1
    have k5 := shx.2.2.2.2.2.2.2.2.2.1
    have k1 := (sh.op (o := cs.length + 1) (by omega)).1
    have e0 := opAt_n (T := T) (o := cs.length + 1) sh h5 hl (Nat.le_refl _)
    have hF : ncf cs n E (cs.length + 1) = (8, 0, 0, n) := by
      unfold ncf
      rw [if_neg (by omega), if_neg (by omega)]
    have h56 : J 5 6 = nI n := by rw [hC.1 5 (fun o h1 h2 => by omega)]; exact hR.2.1
    have hS := Cw_step (m := cs.length + 1) (by omega) hC
    rw [hF] at hS
    refine ⟨_, ?_, ?_, hS⟩
    · unfold f_sm_replacePipeline_10 f_sm_replacePipeline_69 f_op_become
      rw [gI_t ksm, h5, if_pos ((nI_leI (by omega) (by omega)).mpr (Nat.le_refl _)), gI_t ksm, h5, show nI cs.length + (1 : Int32) = nI (cs.length + 1) from nI_1 _, ck_t ksm, e0, cR_x, onR_s, gI_t k5, h56, ck_t k1, pI_t k1, pI_t k1, pI_t k1, pI_t k1, cV_x]
      rfl
    · rw [u2_ne (by omega), u2_ne (by omega), u2_ne (by omega), u2_ne (by omega)]; exact h5
  | d + 1, n' + 1, i, J, hi, hn, h5, hC => by
    have ksm := sh.1
    have k5 := shx.2.2.2.2.2.2.2.2.2.1
    obtain ⟨r6, r7, r8, r9, hrow, -⟩ := shx.2.2.2.2.2.2.2.2.2.2.2
    obtain ⟨t6, l6⟩ := hrow 6 (by omega) (by omega)
    obtain ⟨t7, l7⟩ := hrow 7 (by omega) (by omega)
    obtain ⟨t8, l8⟩ := hrow 8 (by omega) (by omega)
    obtain ⟨t9, l9⟩ := hrow 9 (by omega) (by omega)
    have k1 := (sh.op (o := i + 1) (by omega)).1
    have e0 := opAt_n (T := T) (o := i + 1) sh h5 hl (by omega)
    obtain ⟨w1, w2, w3, w4⟩ := hR.2.2 i (by omega)
    have gJ : ∀ a, a < 20 → J a = I a := fun a ha => hC.1 a (fun o h1 h2 => by omega)
    have hF : ncf cs n E (i + 1) = cs[i]'(by omega) := by
      unfold ncf
      rw [if_neg (by omega), if_pos (by omega), List.getD_eq_getElem?_getD, Nat.add_sub_cancel, List.getElem?_eq_getElem (by omega)]
      rfl
    have hS := Cw_step (m := i + 1) (by omega) hC
    rw [hF] at hS
    obtain ⟨J', e1, g1, g2⟩ := rep_loop sh shx hl hR E d n' (i + 1) _ (by omega) (by omega) (by rw [u2_ne (by omega), u2_ne (by omega), u2_ne (by omega), u2_ne (by omega)]; exact h5) hS
    refine ⟨J', ?_, g1, g2⟩
    rw [← e1]
    conv => lhs; unfold f_sm_replacePipeline_10
    unfold f_sm_replacePipeline_63 f_op_become
    rw [gI_t ksm, h5, if_neg (fun z => by have := (nI_leI (by omega) (by omega)).mp z; omega), if_neg (fun z => by have := (nI_leI (a := 4) (by omega) (by omega)).mp z; omega), ck_t ksm, show nI i + (1 : Int32) = nI (i + 1) from nI_1 _, e0, cR_x, onR_s, gA_t k5, r6, onR_s, aI_t t6 (by omega) (by omega), gA_t k5, r7, onR_s, aI_t t7 (by omega) (by omega), gA_t k5, r8, onR_s, aI_t t8 (by omega) (by omega), gA_t k5, r9, onR_s, aI_t t9 (by omega) (by omega), gJ 6 (by omega), gJ 7 (by omega), gJ 8 (by omega), gJ 9 (by omega), w1, w2, w3, w4, ck_t k1, pI_t k1, pI_t k1, pI_t k1, pI_t k1, cV_x]
theorem brk_z (D : Dy) (Q : Slow) : brkD (zerD (zsW (zsD D (fun _ => false)) 100)) Q = brkD (zerD D) Q := by
  unfold brkD
  simp only [zer_f, zer_z, gs_W, gs_D]
theorem x_read (hC : SC S I T) (h : PD S k) : ∃ I' T', f_x_readPipeline 0 ((I, T) : Mem) = some ((yRead S).1, ((I', T') : Mem)) ∧ SC (yRead S).2 I' T' ∧ KP I T I' T' := by
  have hC' := hC
  have hRm := SC_RmP hC
  obtain ⟨sh, shx, h550, -, -, ⟨g, hCT⟩, hT, hW, hX, hPl, hPr⟩ := hC
  have hE := h.1.1
  have n4 := hE.1
  obtain ⟨hlen, hck⟩ := h.2.2.1
  obtain ⟨x0, x1, -, x2, x3, x4, -, k1, -, k5, -⟩ := id shx
  have ksm := sh.1
  have k7 := shx.2.2.2.2.2.2.2.2.2.2.2.2.2.2.2.2.1
  obtain ⟨I1, e1, f1, p1, v1⟩ := kr_all shx hT hck hlen
  have hT1 : SbC I1 T 1 (yT S) := SbC_cg hT (f1 1 (by omega)) (fun tv htv => by
    obtain ⟨tv', t1, t2, t3, -⟩ := hT
    rw [t1] at htv
    cases htv
    exact f1 _ (by omega))
  obtain ⟨I2, e2, S2, G2⟩ := sb_clr k1 hT1 (by omega)
  obtain ⟨tv, tv1, tv2, tv3, tv4, -⟩ := hT
  have f2 : ∀ a, a < tN T → a ≠ 1 → a ≠ tv → I2 a = I1 a := fun a a1 a2 a3 => G2.2.2.2.2.2.2.2 a a1 a2 (fun z => by rw [tv1] at z; cases z; exact a3 rfl)
  have hlv : ∀ lv, tR T 18 0 = some lv → lv < tN T ∧ lv ≠ tv ∧ (lv = 19 ∨ 550 ≤ lv) := fun lv hl => by
    obtain ⟨lv', l1, l2, l3, l4, -⟩ := hCT.2.2.2.2.2.2.2.2.2.1
    rw [l1] at hl
    cases hl
    exact ⟨l4, fun z => by rw [z, tv2] at l2; omega, l3⟩
  have F : ∀ a, a < tN T → (a < 1 ∨ (1 < a ∧ a < 5) ∨ 9 < a) → a ≠ tv → I2 a = I a := fun a a1 a2 a3 => by rw [f2 a a1 (by omega) a3, f1 a (by omega)]
  have fI : ∀ a, 9 < a → a < 550 → I2 a = I a := fun a a1 a2 => F a (by omega) (by omega) (by omega)
  have C2 : CT (yE S) (yD S) g (yQ S) I2 T := by
    obtain ⟨h1, h2, h3, h4, h5, h6, h7, h8, h9, ⟨lv, r1, r2', r3, r4, r5, r6, r7, r8, r9, r10⟩, h11⟩ := hCT
    have flv : I2 lv = I lv := F lv r4 (by omega) (hlv lv r1).2.1
    exact ⟨CfC_cg h1 n4 (by rw [fI 10 (by omega) (by omega)]) (fI 11 (by omega) (by omega)) (fun o ho j _ _ => by rw [fI _ (by omega) (by omega)]), ChsC_cg h2 (fun a _ _ => fI a (by omega) (by omega)), InsC_cg h3 (fun a _ _ _ => fI a (by omega) (by omega)), KsC_cg h4 (fun a _ _ _ _ => fI a (by omega) (by omega)), PeC_cg h5 (fun a _ _ _ _ => fI a (by omega) (by omega)), PgC_cg hE h6 (fun o i ho hi => by rw [fI _ (by omega) (by omega)]), StC_cg h7 (fun o ho j _ _ => by rw [fI _ (by omega) (by omega)]), ScC_cg h8 (fI 10 (by omega) (by omega)), NpC_cg h9 (fun a _ _ => fI a (by omega) (by omega)), ⟨lv, r1, r2', r3, r4, r5, r6, by rw [fI 18 (by omega) (by omega)]; exact r7, by rw [fI 18 (by omega) (by omega)]; exact r8, fun t ht => (by rw [flv]; exact r9 t ht), r10⟩, VsC_cg h11 (fun a _ _ _ _ => fI a (by omega) (by omega)) (fun o i ho hi => by rw [fI _ (by omega) (by omega)]) (by rw [fI 10 (by omega) (by omega)]; exact ⟨rfl, rfl, rfl, rfl, rfl⟩)⟩
  unfold f_x_readPipeline yRead
  rw [gA_t x0, x2, onR_s, ck_t k5, e1, cI_x, gA_t x0, x1, onR_s, ck_t k1, e2, cV_x, b01_cs]
  cases hok : (rdA (yT S)).1 with
  | false =>
    have hPl2 : PlC I2 (yE S) := PlC_cg hPl n4 rfl rfl rfl rfl rfl (fI 488 (by omega) (by omega)) (fun o ho a g1 g2 => fI a (by omega) (by omega))
    obtain ⟨C4, K4⟩ := SC_new (l' := []) hC' C2 (fun a a1 a2 a3 a4 => F a a1 (by omega) (fun z => a4 (by rw [z]; exact tv1))) S2 hPl2
    refine ⟨I2, T, ?_, C4, K4⟩
    have p2 : I2 5 7 = nI (rdA (yT S)).2.1 := by rw [f2 5 (by omega) (by omega) (by omega)]; exact p1
    rw [if_neg (by decide), gA_t x0, x2, onR_s, gI_t k5, p2]
    rfl
  | true =>
    obtain ⟨a1, a2, a3, a4⟩ := rdA_ok hck hok
    obtain ⟨o1, o2, o3⟩ := nE_ok hE a1 a2 a3 a4
    have hR1 := v1 hok
    have hR2 : Rdr I2 (rdA (yT S)).2.2.1 (rdA (yT S)).2.2.2 := by
      unfold Rdr Rw at hR1 ⊢
      rw [f2 5 (by omega) (by omega) (by omega), f2 6 (by omega) (by omega) (by omega), f2 7 (by omega) (by omega) (by omega), f2 8 (by omega) (by omega) (by omega), f2 9 (by omega) (by omega) (by omega)]
      exact hR1
    obtain ⟨J0, hJ0⟩ : ∃ J0, J0 = u2 I2 10 5 (nI (rdA (yT S)).2.2.1.length) := ⟨_, rfl⟩
    have hRJ : Rdr J0 (rdA (yT S)).2.2.1 (rdA (yT S)).2.2.2 := by
      unfold Rdr Rw at hR2 ⊢
      rw [hJ0, u2_ne (show (5 : Nat) ≠ 10 by omega), u2_ne (show (6 : Nat) ≠ 10 by omega), u2_ne (show (7 : Nat) ≠ 10 by omega), u2_ne (show (8 : Nat) ≠ 10 by omega), u2_ne (show (9 : Nat) ≠ 10 by omega)]
      exact hR2
    obtain ⟨J1, e3, g3, c3⟩ := rep_loop (T := T) sh shx a1 hRJ (yE S) (rdA (yT S)).2.2.1.length FU 0 J0 (by omega) (by unfold FU; omega) (by rw [hJ0]; exact u2_at rfl rfl) ⟨fun _ _ => rfl, fun o h1 h2 => by omega⟩
    have c3a : ∀ a, a ≠ 10 → (∀ o, 1 ≤ o → o < (rdA (yT S)).2.2.1.length + 2 → a ≠ 20 + 33 * o) → J1 a = I2 a := fun a a1 a2 => by rw [c3.1 a a2, hJ0, u2_ne a1]
    have c3b : ∀ o j, o < 6 → (j < 6 ∨ 9 < j) → J1 (20 + 33 * o) j = I2 (20 + 33 * o) j := fun o j ho hj => by
      by_cases hz : 1 ≤ o ∧ o < (rdA (yT S)).2.2.1.length + 2
      · rw [(c3.2 o hz.1 hz.2).2 j hj, hJ0, u2_ne (by omega)]
      · rw [c3a _ (by omega) (fun o' h1 h2 => by omega)]
    have c3c : ∀ j, j ≠ 5 → J1 10 j = I2 10 j := fun j hj => by rw [c3.1 10 (fun o h1 h2 => by omega), hJ0, u2_nj rfl hj]
    have hin : ∀ a, (a < 10 ∨ (10 < a ∧ a < 20) ∨ 218 ≤ a ∨ (20 ≤ a ∧ a < 218 ∧ 1 ≤ (a - 20) % 33)) → J1 a = I2 a := fun a ha => c3a a (by omega) (fun o h1 h2 => by omega)
    -- the new pipeline over the old machine; what its checkpoint had goes
    have C3 : CT (nE (yE S) (rdA (yT S)).2.2.1 (rdA (yT S)).2.2.2) (zsW (zsD (yD S) (fun _ => false)) 100) g (yQ S) J1 T := by
      obtain ⟨h1, h2, h3, h4, h5, h6, h7, ⟨s1, s2, s3, s4⟩, h9, h10, h11⟩ := C2
      refine ⟨⟨g3, ?_, ?_, fun o ho => ?_⟩, ChsC_cg h2 (fun a _ _ => hin a (by omega)), InsC_cg h3 (fun a _ _ _ => hin a (by omega)), KsC_cg h4 (fun a _ _ _ _ => hin a (by omega)), PeC_cg h5 (fun a _ _ _ _ => hin a (by omega)), ⟨h6.1, fun o i v hd => by cases hd⟩, StC_cg h7 (fun o ho j j1 j2 => c3b o j ho (by omega)), ⟨(c3c 6 (by omega)).trans s1, (c3c 9 (by omega)).trans s2, (c3c 12 (by omega)).trans s3, fun _ hw => ?_⟩, NpC_cg (E := yE S) h9 (fun a _ _ => hin a (by omega)), LaC_cg h10 (hin 18 (by omega)) (fun a ha => hin a (by omega)), VsC_cg h11 (fun a _ _ _ _ => hin a (by omega)) (fun o i ho hi => by
        have := adr_in ho hi (20 + 33 * o + 18 + 5 * i) (by omega) (by omega)
        rw [hin _ (by omega)]) ⟨c3c 7 (by omega), c3c 8 (by omega), c3c 10 (by omega), c3c 11 (by omega), c3c 14 (by omega)⟩⟩
      · have q := h1.2.1
        unfold SeC at q ⊢
        rw [hin 11 (by omega)]
        exact q
      · rw [hin 11 (by omega)]; exact h1.2.2.1
      · have ho' : o ≤ (rdA (yT S)).2.2.1.length + 1 := ho
        by_cases hz : o = 0
        · obtain ⟨z1, z2, z3, z4⟩ := h1.2.2.2 0 (Nat.zero_le _)
          have e0 : J1 (20 + 33 * o) = I2 (20 + 33 * o) := c3a _ (by omega) (fun o' h1 h2 => by omega)
          rw [e0, hz]
          exact ⟨z1, z2, z3, z4⟩
        · exact (c3.2 o (by omega) (by omega)).1
      · exfalso
        have hw' : (100 : Nat) ≤ eP (nE (yE S) (rdA (yT S)).2.2.1 (rdA (yT S)).2.2.2) ((rdA (yT S)).2.2.1.length + 1) := hw
        have := o1.p3 (o := (rdA (yT S)).2.2.1.length + 1) (Nat.le_refl _)
        omega
    obtain ⟨I4, e4, C4, F4⟩ := sm_begin sh h550 o1 C3
    rw [brk_z] at C4
    obtain ⟨I5, e5, f5, b5, b6, c5⟩ := pl_forget (E := esQ (esT (nE (yE S) (rdA (yT S)).2.2.1 (rdA (yT S)).2.2.2) 0) 0) sh shx a1 C4.1
    have C5 := CT_pln (E := esQ (esT (nE (yE S) (rdA (yT S)).2.2.1 (rdA (yT S)).2.2.2) 0) 0) (I' := I5) o1 C4 (fun a g1 g2 => f5 a g1 (fun x hx => by
      have hx4 : x ≤ (rdA (yT S)).2.2.1.length + 1 := hx
      omega))
    have all : ∀ a, a < tN T → (a = 1 ∨ a = 3 ∨ a = 4 ∨ 489 ≤ a ∨ a = 2 ∨ (20 ≤ a ∧ a < 218 ∧ 14 ≤ (a - 20) % 33 ∧ (a - 20) % 33 < 18)) → tR T 18 0 ≠ some a → I5 a = I2 a := fun a a1' a2' a3' => by
      rw [f5 a (by omega) (fun x hx => by
        have hx4 : x ≤ (rdA (yT S)).2.2.1.length + 1 := hx
        omega), F4 a a1' (by omega) a3', hin a (by omega)]
    have h18 : ∀ a, (a < 19 ∨ (19 < a ∧ a < 550)) → tR T 18 0 ≠ some a := fun a ha z => by
      have := (hlv a z).2.2
      omega
    have ST : SbC I5 T 1 [] := SbC_cg S2 (all 1 (by omega) (by omega) (h18 1 (by omega))) (fun tv' htv => by
      rw [tv1] at htv
      cases htv
      exact all _ tv4 (by omega) (fun z => (hlv _ z).2.1 rfl))
    have hPl5 : PlC I5 (esQ (esT (nE (yE S) (rdA (yT S)).2.2.1 (rdA (yT S)).2.2.2) 0) 0) := PlC_0 (I := I4) (fun o ho => by
      obtain ⟨-, -, -, -, p4⟩ := hPl
      obtain ⟨x, hx⟩ := p4 o ho
      exact ⟨x, KyC_cg hx (fun a g1 g2 => by rw [F4 a (by omega) (by omega) (h18 a (by omega)), hin a (by omega), fI a (by omega) (by omega)])⟩) a1 f5 b5 c5
    obtain ⟨C6, K6⟩ := SC_new (l' := []) hC' C5 (fun a b1 b2 b3 b4 => by rw [all a b1 (by omega) b3]; exact F a b1 (by omega) (fun z => b4 (by rw [z]; exact tv1))) ST hPl5
    refine ⟨I5, T, ?_, C6, K6⟩
    have h55 : I2 5 5 = nI (rdA (yT S)).2.2.1.length := hR2.1
    have h105 : I5 10 5 = nI (rdA (yT S)).2.2.1.length := C5.1.1
    have e34 : f_sm_replacePipeline 10 5 ((I2, T) : Mem) = some ((I4, T) : Mem) := by
      unfold f_sm_replacePipeline
      rw [gI_t k5, h55, pI_t ksm, ← hJ0, show (0 : Int32) = nI 0 from rfl, e3]
      unfold f_sm_replacePipeline_96
      rw [ck_t ksm, e4, cV_x]
    rw [if_pos rfl, gA_t x0, x3, onR_s, gA_t x0, x2, onR_s, ck_t ksm, e34, cV_x, gA_t x0, x4, onR_s, ck_t k7, e5, cV_x, gA_t x0, x3, onR_s, gI_t ksm, h105]
    rfl
end
