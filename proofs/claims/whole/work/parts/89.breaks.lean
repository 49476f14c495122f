/-! CALLS: the class goes back to the saved -/
def bkI (D : Dy) (Q : Slow) (mo ms : Nat) : Dy := zsK (zsN (zsP (zsS (zsH (zsL D (fun s => if s < ms then [] else dL D s)) (fun s => if s < ms then false else dH D s)) (fun s => if s < ms then 0 else dS D s)) (fun s => if s < ms then 0 else dP D s)) (fun s => if s < ms then qR Q s else dN D s)) (fun o => if o < mo then qV Q o else dK D o)
theorem bkI_f (D : Dy) (Q : Slow) (mo ms : Nat) : dL (bkI D Q mo ms) = (fun s => if s < ms then [] else dL D s) ∧ dH (bkI D Q mo ms) = (fun s => if s < ms then false else dH D s) ∧ dS (bkI D Q mo ms) = (fun s => if s < ms then 0 else dS D s) ∧ dP (bkI D Q mo ms) = (fun s => if s < ms then 0 else dP D s) ∧ dN (bkI D Q mo ms) = (fun s => if s < ms then qR Q s else dN D s) ∧ dK (bkI D Q mo ms) = (fun o => if o < mo then qV Q o else dK D o) ∧ dC (bkI D Q mo ms) = dC D := ⟨rfl, rfl, rfl, rfl, rfl, rfl, rfl⟩
theorem bkI_lt {D : Dy} {Q : Slow} {mo ms s : Nat} (h : s < ms) : dL (bkI D Q mo ms) s = [] ∧ dH (bkI D Q mo ms) s = false ∧ dS (bkI D Q mo ms) s = 0 ∧ dP (bkI D Q mo ms) s = 0 ∧ dN (bkI D Q mo ms) s = qR Q s := by
  simp only [bkI_f, if_pos h, and_self]
theorem bkI_r (D : Dy) (Q : Slow) (mo m m' : Nat) : dC (bkI D Q mo m) = dC (bkI D Q mo m') ∧ dD (bkI D Q mo m) = dD (bkI D Q mo m') ∧ dR (bkI D Q mo m) = dR (bkI D Q mo m') ∧ dK (bkI D Q mo m) = dK (bkI D Q mo m') ∧ dG (bkI D Q mo m) = dG (bkI D Q mo m') ∧ dX (bkI D Q mo m) = dX (bkI D Q mo m') ∧ dY (bkI D Q mo m) = dY (bkI D Q mo m') ∧ dB (bkI D Q mo m) = dB (bkI D Q mo m') ∧ dI (bkI D Q mo m) = dI (bkI D Q mo m') ∧ dT (bkI D Q mo m) = dT (bkI D Q mo m') ∧ dM (bkI D Q mo m) = dM (bkI D Q mo m') ∧ dU (bkI D Q mo m) = dU (bkI D Q mo m') ∧ dO (bkI D Q mo m) = dO (bkI D Q mo m') ∧ dW (bkI D Q mo m) = dW (bkI D Q mo m') := ⟨rfl, rfl, rfl, rfl, rfl, rfl, rfl, rfl, rfl, rfl, rfl, rfl, rfl, rfl⟩
section
variable {T T' : Tl} {I I' : Iw} {E E' : Env} {D D' : Dy} {Q Q' : Slow} {S : Sy} {g g' : Nat → Kst} {o i j s c r tk k : Nat}
theorem is_ret (sh : shSm T) (hE : okE E) {mo : Nat} (ho : o < 6) (hi : i < 3) (hC : CT E (bkI D Q mo (3 * o + i)) g Q I T) : ∃ I', f_is_returnToSaved (20 + 33 * o + 18 + 5 * i) ((I, T) : Mem) = some ((I', T) : Mem) ∧ CT E (bkI D Q mo (3 * o + (i + 1))) g Q I' T ∧ FX T I I' := by
  have kop := sh.op (o := o) (by omega)
  have kin := kop.inn (i := i) (by omega)
  have kin1 := kin.1
  have kin2 := kin.2.1
  have krc := kin.2.2
  have krc1 := krc.1
  obtain ⟨a1, a2, a3, a4, a5⟩ := hC.2.2.1 o i ho hi
  have h6 := hC.2.2.2.2.2.2.2.2.2.2.2.1 o i ho hi
  obtain ⟨I1, e1, f1, r1⟩ := rc_wipe (T := T) m3_4 krc a1.2.1
  have hq : I1 (20 + 33 * o + 18 + 5 * i) = I (20 + 33 * o + 18 + 5 * i) := f1 _ (by omega)
  have h6' : I1 (20 + 33 * o + 18 + 5 * i) 6 = nI (qR Q (spt o i)) := by rw [hq]; exact h6
  obtain ⟨I2, hI2⟩ : ∃ I2, I2 = u2 (u2 (u2 (u2 I1 (20 + 33 * o + 18 + 5 * i) 1 (nI 0)) (20 + 33 * o + 18 + 5 * i) 2 (nI 0)) (20 + 33 * o + 18 + 5 * i) 3 (nI 0)) (20 + 33 * o + 18 + 5 * i) 4 (nI (qR Q (spt o i))) := ⟨_, rfl⟩
  have g0 : ∀ a, a ≠ 20 + 33 * o + 18 + 5 * i → I2 a = I1 a := fun a ha => by rw [hI2, u2_ne ha, u2_ne ha, u2_ne ha, u2_ne ha]
  have g1 : ∀ j, 5 ≤ j → I2 (20 + 33 * o + 18 + 5 * i) j = I (20 + 33 * o + 18 + 5 * i) j := fun j hj => by rw [hI2, u2_nj rfl (by omega), u2_nj rfl (by omega), u2_nj rfl (by omega), u2_nj rfl (by omega), hq]
  have hs : spt o i < 3 * o + (i + 1) := by unfold spt; omega
  obtain ⟨t1, t2, t3, t4, t5⟩ := bkI_lt (D := D) (Q := Q) (mo := mo) hs
  have CF : CT E (bkI D Q mo (3 * o + (i + 1))) g Q I2 T ∧ FX T I I2 := by
    refine CT_in (D' := bkI D Q mo (3 * o + (i + 1))) (I' := I2) hE hC ho hi (fun a ha => by rw [g0 a (by omega)]; exact f1 a (by omega)) (g1 5 (by omega)) (g1 6 (by omega)) ⟨?_, ?_, ?_, ?_, ?_⟩ (fun s hne => ?_) (bkI_r _ _ _ _ _)
    · rw [t1]
      exact Rng_cg r1 (fun a _ _ => g0 a (by omega))
    · rw [t2, hI2, u2_nj rfl (by omega), u2_nj rfl (by omega), u2_nj rfl (by omega), u2_at rfl rfl]
      rfl
    · rw [t3, hI2, u2_nj rfl (by omega), u2_nj rfl (by omega), u2_at rfl rfl]
    · rw [t4, hI2, u2_nj rfl (by omega), u2_at rfl rfl]
    · rw [t5, hI2, u2_at rfl rfl]
    · have hlt : s < 3 * o + (i + 1) ↔ s < 3 * o + i := by unfold spt at hne; omega
      simp only [bkI_f, hlt, and_self]
  obtain ⟨C, F⟩ := CF
  refine ⟨I2, ?_, C, F⟩
  unfold f_is_returnToSaved
  simp (disch := omega) only [↓gI_t, ↓pI_t, ↓pZ_t, ↓ck_t, ↓aN_t, ↓cI_x, ↓cV_x, ↓cR_x, ↓onR_s, ↓onR_n, ↓nmI_t, ↓reduceIte, gA_t, aI_t, sI_t, aA_t, aB_t, sB_t, rmI_t, dvI_t, nI_add, pk_mul, pk_sub, nI_leI, nI_ltI, nI_eq, n_leT, n_leF, n_ltT, n_ltF, n_eqT, n_eqF, u2_ne, u2_at, u2_nj, r2_ne, r2_at, ↓i_neg1, m1_ne, m1_en, m1_lt, m1_le, m1_nlt, m1_nle, i_lits, true_and, and_true, kin1, kin2, krc1, e1, h6']
  rw [← hI2]
theorem op_ret (sh : shSm T) (hE : okE E) {mo : Nat} (ho : o < 6) : ∀ (d n i : Nat) (I : Iw), i + d = 3 → d < n → CT E (bkI D Q mo (3 * o + i)) g Q I T → ∃ I', f_op_returnToSaved_21 n (20 + 33 * o + 1) (nI 3) (nI i) ((I, T) : Mem) = some ((I', T) : Mem) ∧ CT E (bkI D Q mo (3 * o + 3)) g Q I' T ∧ FX T I I'
  | d, 0, i, I, _, hn, _ => by omega
  | 0, n + 1, i, I, hi, hn, hC => by
    have : i = 3 := by omega
    subst this
    refine ⟨I, ?_, hC, FX_rf⟩
    unfold f_op_returnToSaved_21
    simp (disch := omega) only [↓gI_t, ↓pI_t, ↓pZ_t, ↓ck_t, ↓aN_t, ↓cI_x, ↓cV_x, ↓cR_x, ↓onR_s, ↓onR_n, ↓nmI_t, ↓reduceIte, gA_t, aI_t, sI_t, aA_t, aB_t, sB_t, rmI_t, dvI_t, nI_add, pk_mul, pk_sub, nI_leI, nI_ltI, nI_eq, n_leT, n_leF, n_ltT, n_ltF, n_eqT, n_eqF, u2_ne, u2_at, u2_nj, r2_ne, r2_at, ↓i_neg1, m1_ne, m1_en, m1_lt, m1_le, m1_nlt, m1_nle, i_lits, true_and, and_true]
  | d + 1, n + 1, i, I, hi, hn, hC => by
    have kop := sh.op (o := o) (by omega)
    have kin1 := (kop.inn (i := i) (by omega)).1
    have k3 := kop.2.2.1
    have k4 := kop.2.2.2.1
    have k5 := kop.2.2.2.2.1 i (by omega)
    obtain ⟨I1, e1, C1, F1⟩ := is_ret (i := i) sh hE ho (by omega) hC
    obtain ⟨I2, e2, C2, F2⟩ := op_ret sh hE ho d n (i + 1) I1 (by omega) (by omega) C1
    refine ⟨I2, ?_, C2, FX_tr F1 F2⟩
    unfold f_op_returnToSaved_21 f_op_returnToSaved_41
    simp (disch := omega) only [↓gI_t, ↓pI_t, ↓pZ_t, ↓ck_t, ↓aN_t, ↓cI_x, ↓cV_x, ↓cR_x, ↓onR_s, ↓onR_n, ↓nmI_t, ↓reduceIte, gA_t, aI_t, sI_t, aA_t, aB_t, sB_t, rmI_t, dvI_t, nI_add, pk_mul, pk_sub, nI_leI, nI_ltI, nI_eq, n_leT, n_leF, n_ltT, n_ltF, n_eqT, n_eqF, u2_ne, u2_at, u2_nj, r2_ne, r2_at, ↓i_neg1, m1_ne, m1_en, m1_lt, m1_le, m1_nlt, m1_nle, i_lits, true_and, and_true, k3, k4, k5, kin1, e1, e2]
theorem sm_ret59 (sh : shSm T) (hE : okE E) : ∀ (d n o : Nat) (I : Iw), o + d = 6 → d < n → CT E (bkI D Q o (3 * o)) g Q I T → ∃ I', f_sm_returnToSaved_59 n 16 (nI 6) (nI o) ((I, T) : Mem) = some ((I', T) : Mem) ∧ CT E (bkI D Q 6 18) g Q I' T ∧ FX T I I'
  | d, 0, o, I, _, hn, _ => by omega
  | 0, n + 1, o, I, ho, hn, hC => by
    have : o = 6 := by omega
    subst this
    refine ⟨I, ?_, hC, FX_rf⟩
    unfold f_sm_returnToSaved_59
    simp (disch := omega) only [↓gI_t, ↓pI_t, ↓pZ_t, ↓ck_t, ↓aN_t, ↓cI_x, ↓cV_x, ↓cR_x, ↓onR_s, ↓onR_n, ↓nmI_t, ↓reduceIte, gA_t, aI_t, sI_t, aA_t, aB_t, sB_t, rmI_t, dvI_t, nI_add, pk_mul, pk_sub, nI_leI, nI_ltI, nI_eq, n_leT, n_leF, n_ltT, n_ltF, n_eqT, n_eqF, u2_ne, u2_at, u2_nj, r2_ne, r2_at, ↓i_neg1, m1_ne, m1_en, m1_lt, m1_le, m1_nlt, m1_nle, i_lits, true_and, and_true]
  | d + 1, n + 1, o, I, ho, hn, hC => by
    have kop := sh.op (o := o) (by omega)
    have k1 := kop.1
    have k2 := kop.2.1
    have k3 := kop.2.2.1
    have k4 := kop.2.2.2.1
    have ky2 := kop.2.2.2.2.2.2.2.2.2.2.1
    have ky8 := kop.2.2.2.2.2.2.2.2.2.2.2.2.1
    have kr1 := kop.2.2.2.2.2.1
    have kr3 := kop.2.2.2.2.2.2.2.1
    have k16 := sh.2.2.2.2.2.2.2.1
    have kl16 := sh.2.2.2.2.2.2.2.2.1
    have kr16 := sh.2.2.2.2.2.2.2.2.2.2.2.2.2.1 o (by omega)
    have ky21 := ky2.1
    obtain ⟨I1, e1, f1, c1⟩ := ky_copyAll (T := T) (a := 20 + 33 * o + 2) (b := 20 + 33 * o + 8) ky2 ky8 (by omega) (hC.2.2.2.2.2.2.2.2.2.2.1 o (by omega))
    obtain ⟨C1, F1⟩ := CT_K hE hC (by omega) f1 c1
    have hnew : zsK (bkI D Q o (3 * o)) (upw (dK (bkI D Q o (3 * o))) o (qV Q o)) = bkI D Q (o + 1) (3 * o + 0) := by
      have : upw (dK (bkI D Q o (3 * o))) o (qV Q o) = fun x => if x < o + 1 then qV Q x else dK D x := funext fun x => by
        simp only [bkI_f]
        by_cases hz : x = o
        · rw [hz, upw_eq, if_pos (by omega)]
        · rw [upw_ne hz]
          by_cases hy : x < o
          · rw [if_pos hy, if_pos (by omega)]
          · rw [if_neg hy, if_neg (by omega)]
      rw [this]
      rfl
    rw [hnew] at C1
    obtain ⟨I2, e2, C2, F2⟩ := op_ret sh hE (by omega) 3 FU 0 I1 (by omega) (by unfold FU; omega) C1
    obtain ⟨I3, e3, C3, F3⟩ := sm_ret59 sh hE d n (o + 1) I2 (by omega) (by omega) C2
    refine ⟨I3, ?_, C3, FX_tr F1 (FX_tr F2 F3)⟩
    have hop : f_op_returnToSaved (20 + 33 * o) ((I, T) : Mem) = some ((I2, T) : Mem) := by
      unfold f_op_returnToSaved
      simp (disch := omega) only [↓gI_t, ↓pI_t, ↓pZ_t, ↓ck_t, ↓aN_t, ↓cI_x, ↓cV_x, ↓cR_x, ↓onR_s, ↓onR_n, ↓nmI_t, ↓reduceIte, gA_t, aI_t, sI_t, aA_t, aB_t, sB_t, rmI_t, dvI_t, nI_add, pk_mul, pk_sub, nI_leI, nI_ltI, nI_eq, n_leT, n_leF, n_ltT, n_ltF, n_eqT, n_eqF, u2_ne, u2_at, u2_nj, r2_ne, r2_at, ↓i_neg1, m1_ne, m1_en, m1_lt, m1_le, m1_nlt, m1_nle, i_lits, true_and, and_true, k1, k2, k3, k4, kr1, kr3, ky21, e1, e2]
    unfold f_sm_returnToSaved_59 f_sm_returnToSaved_79
    simp (disch := omega) only [↓gI_t, ↓pI_t, ↓pZ_t, ↓ck_t, ↓aN_t, ↓cI_x, ↓cV_x, ↓cR_x, ↓onR_s, ↓onR_n, ↓nmI_t, ↓reduceIte, gA_t, aI_t, sI_t, aA_t, aB_t, sB_t, rmI_t, dvI_t, nI_add, pk_mul, pk_sub, nI_leI, nI_ltI, nI_eq, n_leT, n_leF, n_ltT, n_ltF, n_eqT, n_eqF, u2_ne, u2_at, u2_nj, r2_ne, r2_at, ↓i_neg1, m1_ne, m1_en, m1_lt, m1_le, m1_nlt, m1_nle, i_lits, true_and, and_true, k16, kl16, kr16, k1, hop, e3]
theorem sm_ret23 (sh : shSm T) (hE : okE E) : ∀ (d n c : Nat) (I : Iw), c + d = 45 → d < n → CT E (zsC D (fun x => if x < c then ([], [], 0) else dC D x)) g Q I T → ∃ I', f_sm_returnToSaved_23 n 10 17 (nI 45) (nI c) ((I, T) : Mem) = some ((I', T) : Mem) ∧ CT E (bkI (zsC D (fun x => if x < 45 then ([], [], 0) else dC D x)) Q 6 18) g Q I' T ∧ FX T I I'
  | d, 0, c, I, _, hn, _ => by omega
  | 0, n + 1, c, I, hc, hn, hC => by
    have : c = 45 := by omega
    subst this
    have k10 := sh.1
    have k3 := sh.2.2.2.1
    have k16 := sh.2.2.2.2.2.2.2.1
    have kl16 := sh.2.2.2.2.2.2.2.2.1
    have h0 : ∀ D : Dy, bkI D Q 0 (3 * 0) = D := fun D => rfl
    obtain ⟨I1, e1, C1, F1⟩ := sm_ret59 (D := zsC D (fun x => if x < 45 then ([], [], 0) else dC D x)) sh hE 6 FU 0 I (by omega) (by unfold FU; omega) (by rw [h0]; exact hC)
    refine ⟨I1, ?_, C1, F1⟩
    unfold f_sm_returnToSaved_23
    simp (disch := omega) only [↓gI_t, ↓pI_t, ↓pZ_t, ↓ck_t, ↓aN_t, ↓cI_x, ↓cV_x, ↓cR_x, ↓onR_s, ↓onR_n, ↓nmI_t, ↓reduceIte, gA_t, aI_t, sI_t, aA_t, aB_t, sB_t, rmI_t, dvI_t, nI_add, pk_mul, pk_sub, nI_leI, nI_ltI, nI_eq, n_leT, n_leF, n_ltT, n_ltF, n_eqT, n_eqF, u2_ne, u2_at, u2_nj, r2_ne, r2_at, ↓i_neg1, m1_ne, m1_en, m1_lt, m1_le, m1_nlt, m1_nle, i_lits, true_and, and_true, k10, k3, k16, kl16, e1]
  | d + 1, n + 1, c, I, hc, hn, hC => by
    have hl45 : c < 45 := by omega
    have kch := sh.ch hl45
    have hch := hC.2.1 c hl45
    obtain ⟨I1, e1, f1, r1⟩ := ch_wipe (T := T) kch (ChC_mask hch)
    obtain ⟨C1, F1⟩ := CT_ch hE hC hl45 f1 r1
    have hnew : zsC (zsC D (fun x => if x < c then ([], [], 0) else dC D x)) (upw (dC (zsC D (fun x => if x < c then ([], [], 0) else dC D x))) c ([], [], 0)) = zsC D (fun x => if x < c + 1 then ([], [], 0) else dC D x) := by
      have : upw (dC (zsC D (fun x => if x < c then ([], [], 0) else dC D x))) c ([], [], 0) = fun x => if x < c + 1 then ([], [], 0) else dC D x := funext fun x => by
        simp only [gs_C]
        by_cases hz : x = c
        · rw [hz, upw_eq, if_pos (by omega)]
        · rw [upw_ne hz]
          by_cases hy : x < c
          · rw [if_pos hy, if_pos (by omega)]
          · rw [if_neg hy, if_neg (by omega)]
      rw [this]
      rfl
    rw [hnew] at C1
    obtain ⟨I2, e2, C2, F2⟩ := sm_ret23 sh hE d n (c + 1) I1 (by omega) (by omega) C1
    have k17 := sh.2.2.2.2.2.2.2.2.2.1
    have kl17 := sh.2.2.2.2.2.2.2.2.2.2.1
    have kr17 := sh.2.2.2.2.2.2.2.2.2.2.2.2.2.2.1 c hl45
    have kch1 := kch.1
    refine ⟨I2, ?_, C2, FX_tr F1 F2⟩
    unfold f_sm_returnToSaved_23 f_sm_returnToSaved_43
    simp (disch := omega) only [↓gI_t, ↓pI_t, ↓pZ_t, ↓ck_t, ↓aN_t, ↓cI_x, ↓cV_x, ↓cR_x, ↓onR_s, ↓onR_n, ↓nmI_t, ↓reduceIte, gA_t, aI_t, sI_t, aA_t, aB_t, sB_t, rmI_t, dvI_t, nI_add, pk_mul, pk_sub, nI_leI, nI_ltI, nI_eq, n_leT, n_leF, n_ltT, n_ltF, n_eqT, n_eqF, u2_ne, u2_at, u2_nj, r2_ne, r2_at, ↓i_neg1, m1_ne, m1_en, m1_lt, m1_le, m1_nlt, m1_nle, i_lits, true_and, and_true, k17, kl17, kr17, kch1, e1, e2]
theorem sm_ret (sh : shSm T) (hE : okE E) (hC : CT E D g Q I T) : ∃ I', f_sm_returnToSaved 10 ((I, T) : Mem) = some ((I', T) : Mem) ∧ CT (esQ E 0) (brkD D Q) g Q I' T ∧ FX T I I' := by
  have n4 := hE.1
  have h8 := hC.2.2.2.2.2.2.2.2.2.2.2.2.2.1
  obtain ⟨I1, hI1⟩ : ∃ I1, I1 = u2 (u2 I 10 12 (nI 0)) 10 6 (nI (qO Q)) := ⟨_, rfl⟩
  have f : ∀ a, a ≠ 10 → I1 a = I a := fun a ha => by rw [hI1, u2_ne ha, u2_ne ha]
  have fj : ∀ j, j ≠ 12 → j ≠ 6 → I1 10 j = I 10 j := fun j a b => by rw [hI1, u2_nj rfl b, u2_nj rfl a]
  have hC1 : CT (esQ E 0) (zsO (zsD (zsW D 0) (fun _ => false)) (qO Q)) g Q I1 T := by
    obtain ⟨h1, h2, h3, h4, h5, h6, h7, ⟨s1, s2, s3, s4⟩, h9, h10, h11⟩ := hC
    refine ⟨CfC_cg h1 n4 (fj 5 (by omega) (by omega)) (f 11 (by omega)) (fun o ho j _ _ => by rw [f _ (by omega)]), ChsC_cg h2 (fun a _ _ => f a (by omega)), InsC_cg h3 (fun a _ _ _ => f a (by omega)), KsC_cg h4 (fun a _ _ _ _ => f a (by omega)), PeC_cg h5 (fun a _ _ _ _ => f a (by omega)), ⟨h6.1, fun o i v hd => by cases hd⟩, StC_cg h7 (fun o _ j _ _ => by rw [f _ (by omega)]), ⟨?_, (fj 9 (by omega) (by omega)).trans s2, ?_, fun w => absurd rfl w⟩, NpC_cg h9 (fun a _ _ => f a (by omega)), LaC_cg h10 (f 18 (by omega)) (fun a _ => f a (by omega)), VsC_cg h11 (fun a _ _ _ _ => f a (by omega)) (fun o i _ _ => by rw [f _ (by omega)]) ⟨fj 7 (by omega) (by omega), fj 8 (by omega) (by omega), fj 10 (by omega) (by omega), fj 11 (by omega) (by omega), fj 14 (by omega) (by omega)⟩⟩
    · rw [hI1]; exact u2_at rfl rfl
    · rw [hI1, u2_nj rfl (by omega)]; exact u2_at rfl rfl
  have h0 : ∀ D : Dy, zsC D (fun x => if x < 0 then ([], [], 0) else dC D x) = D := fun D => rfl
  obtain ⟨I2, e2, C2, F2⟩ := sm_ret23 (E := esQ E 0) (D := zsO (zsD (zsW D 0) (fun _ => false)) (qO Q)) sh hE 45 FU 0 I1 (by omega) (by unfold FU; omega) (by rw [h0]; exact hC1)
  refine ⟨I2, ?_, ?_, FX_tr (fun a ha hb' hc => f a (by omega)) F2⟩
  · have ksm := sh.1
    have k1 := sh.2.2.2.2.1
    have k17 := sh.2.2.2.2.2.2.2.2.2.1
    have kl17 := sh.2.2.2.2.2.2.2.2.2.2.1
    unfold f_sm_returnToSaved
    simp (disch := omega) only [↓gI_t, ↓pI_t, ↓pZ_t, ↓ck_t, ↓aN_t, ↓cI_x, ↓cV_x, ↓cR_x, ↓onR_s, ↓onR_n, ↓nmI_t, ↓reduceIte, gA_t, aI_t, sI_t, aA_t, aB_t, sB_t, rmI_t, dvI_t, nI_add, pk_mul, pk_sub, nI_leI, nI_ltI, nI_eq, n_leT, n_leF, n_ltT, n_ltF, n_eqT, n_eqF, u2_ne, u2_at, u2_nj, r2_ne, r2_at, ↓i_neg1, m1_ne, m1_en, m1_lt, m1_le, m1_nlt, m1_nle, i_lits, true_and, and_true, ksm, h8, k1, k17, kl17]
    rw [← hI1]
    exact e2
  · obtain ⟨c1, c2, c3, c4, c5, c6, c7, c8, c9, c10, c11⟩ := C2
    refine ⟨c1, fun c hc => ?_, fun o i ho hi => ?_, fun o ho => ?_, c5, ⟨c6.1, fun o i v hd => by cases hd⟩, c7, c8, c9, c10, c11⟩
    · have h := c2 c hc
      simp only [bkI_f, gs_C, if_pos hc] at h
      exact h
    · have h := c3 o i ho hi
      have hs : spt o i < 18 := by unfold spt; omega
      unfold InC at h ⊢
      simp only [bkI_f, if_pos hs] at h
      exact h
    · have h := c4 o ho
      simp only [bkI_f, if_pos ho] at h
      exact h
end
