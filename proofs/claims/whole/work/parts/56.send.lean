/-! THE CLASS: sending -/
section
variable {T : Tl} {I : Iw} {E : Env} {D : Dy} {g : Nat → Kst} {Q : Slow} {o i : Nat}
theorem shSm.op (sh : shSm T) {o : Nat} (ho : o < 6) : shOp T (20 + 33 * o) := sh.2.2.2.2.2.2.2.2.2.2.2.2.2.2.2.1 o ho
theorem shSm.ch (sh : shSm T) {c : Nat} (hc : c < 45) : shCh T (218 + 6 * c) := sh.2.2.2.2.2.2.2.2.2.2.2.2.2.2.2.2 c hc
theorem shOp.inn {a i : Nat} (h : shOp T a) (hi : i < 3) : shIn T (a + 18 + 5 * i) := h.2.2.2.2.2.2.2.2.2.2.2.2.2.2.2 i hi
theorem kind_le (hE : okE E) {o : Nat} (ho : o ≤ eN E + 1) : eK E o ≤ 8 := by
  by_cases h0 : o = 0
  · rw [h0, hE.2.2.2.1]; omega
  · by_cases hz : o = eN E + 1
    · rw [hz, hE.2.2.2.2.1]; omega
    · have := hE.2.2.2.2.2.1 o (by omega) (by omega); omega
theorem lin45 (hE : okE E) {o i j : Nat} (v : vC E o i j) : lin o i j < 45 := by
  have := v.i3 hE; have := v.j3 hE; have := hE.1; have := v.1; unfold lin; omega
theorem sendL_code (sh : shSm T) (hE : okE E) (hs : vS E o i) (len : Nat) (hlen : len ≤ 3) : ∀ (l : List Rec) (n k : Nat) (D : Dy) (I : Iw), dL D (spt o i) = l → Inv E D → CT E D g Q I T → k + l.length = len → l.length < n → dN D (spt o i) + l.length < 2 ^ 31 → ∃ I', f_sm_sendList_16 n 10 (nI o) (nI i) (20 + 33 * o + 18 + 5 * i) (20 + 33 * o + 18 + 5 * i + 1) (nI len) (nI k) ((I, T) : Mem) = some (nI (b01 (sendL E o i l D).1), ((I', T) : Mem)) ∧ CT E (sendL E o i l D).2 g Q I' T ∧ FX T I I'
  | l, 0, k, D, I, _, _, _, _, hn, _ => by omega
  | [], n + 1, k, D, I, hl, hI, hC, hk, hn, hN => by
    refine ⟨I, ?_, hC, FX_rf⟩
    unfold f_sm_sendList_16 sendL
    simp only [List.length_nil] at hk
    simp (disch := omega) only [↓gI_t, ↓pI_t, ↓pZ_t, ↓ck_t, ↓aN_t, ↓cI_s, ↓cV_s, ↓cR_s, ↓onR_s, ↓onR_n, ↓nmI_t, ↓reduceIte, gA_t, aI_t, sI_t, aA_t, aB_t, sB_t, rmI_t, dvI_t, nI_add, pk_mul, pk_sub, nI_leI, nI_ltI, nI_eq, n_leT, n_leF, n_ltT, n_ltF, n_eqT, n_eqF, u2_ne, u2_at, u2_nj, r2_ne, r2_at, ↓i_neg1, m1_ne, m1_en, m1_lt, m1_le, m1_nlt, m1_nle, i_lits, true_and, and_true]
    rfl
  | r :: l, n + 1, k, D, I, hl, hI, hC, hk, hn, hN => by
    have n4 := hE.1
    have ho := src_of_list hE hI hs (by rw [hl]; simp)
    have hi := hs.2
    have i3 := hs.i3 hE
    simp only [List.length_cons] at hk hn hN
    obtain ⟨h1, h2, h3, h4⟩ := hC
    have hC : CT E D g Q I T := ⟨h1, h2, h3, h4⟩
    have e1 := sm_opAt (T := T) (o := o + 1) sh h1 n4 (by omega)
    rw [if_pos (by omega)] at e1
    have e2 := sm_target (T := T) sh h1 hE (h3 o i (by omega) i3) ho i3 hl (by omega)
    have hg := goal_lt (D := D) (i := i) hE ho (k := r.1)
    have v : vC E o i (goal E D o i r.1) := ⟨ho, hi, hg⟩
    have e3 := sm_chAt (T := T) sh h1 hE v
    have hl45 := lin45 hE v
    obtain ⟨c, hc⟩ : ∃ c, c = lin o i (goal E D o i r.1) := ⟨_, rfl⟩
    have s4 := hE.2.2.2.2.2.2.2.1
    have c4 := hE.2.2.2.2.2.2.2.2.2.1.2
    have hok := (hI.1 _ _ _ v).1
    rw [← hc] at e3 hl45 hok
    have kch := sh.ch hl45
    have e4 := ch_takesRecord (T := T) kch h1.2.1 (h2 c hl45) s4.2 c4 hok
    have kin := (sh.op (o := o) (by omega)).inn i3
    have kop1 := (sh.op (o := o + 1) (by omega)).1
    have hin := (h3 o i (by omega) i3).1
    rw [hl] at hin
    obtain ⟨a1, a2, a3⟩ := rc_at0 (T := T) m3_4 kin.2.2 hin
    have ksm := sh.1
    have kin1 := kin.1
    have kch1 := kch.1
    have krc := kin.2.2.1
    unfold f_sm_sendList_16 f_sm_sendList_112 sendL
    rw [← hc]
    cases ht : tkR (eS E) (eC E) (dC D c) with
    | false =>
      rw [ht] at e4
      refine ⟨I, ?_, hC, FX_rf⟩
      simp (disch := omega) only [↓gI_t, ↓pI_t, ↓pZ_t, ↓ck_t, ↓aN_t, ↓cI_s, ↓cV_s, ↓cR_s, ↓onR_s, ↓onR_n, ↓nmI_t, ↓reduceIte, gA_t, aI_t, sI_t, aA_t, aB_t, sB_t, rmI_t, dvI_t, nI_add, pk_mul, pk_sub, nI_leI, nI_ltI, nI_eq, n_leT, n_leF, n_ltT, n_ltF, n_eqT, n_eqF, u2_ne, u2_at, u2_nj, r2_ne, r2_at, ↓i_neg1, m1_ne, m1_en, m1_lt, m1_le, m1_nlt, m1_nle, i_lits, true_and, and_true, ksm, e1, e2, e3, kch1, e4, b01, Bool.false_eq_true]
    | true =>
      rw [ht] at e4
      obtain ⟨I1, e5, f1, r1⟩ := ch_putRecord (T := T) kch h1.2.1 (h2 c hl45) hok s4 c4 ht r
      obtain ⟨C1, F1⟩ := CT_ch hE hC hl45 f1 r1
      have hin1 := (C1.2.2.1 o i (by omega) i3).1
      simp only [gs_C] at hin1
      rw [hl] at hin1
      obtain ⟨I2, e6, f2, r2⟩ := rc_pop (T := T) m3_4 kin.2.2 hin1
      obtain ⟨C2, F2⟩ := CT_L hE C1 (by omega) i3 (Frm_up f2 (by omega) (by omega)) r2
      have e7 := op_isKeyed (T := T) kop1 (C2.1.2.2.2 (o + 1) (by omega)).1 (kind_le hE (by omega))
      have hcnt := (C2.2.2.1 o i (by omega) i3).2.2.2.2
      simp only [gs_C, gs_L] at hcnt
      have hD1 : dL (mvPut E D o i r l) (spt o i) = l := by simp only [put_f]; exact upw_eq
      have hI1 := Inv_put hE hI ho hi hl (by rw [← hc]; exact ht)
      cases hky : kyd (eK E (o + 1)) with
      | true =>
        rw [hky] at e7
        have hmv : mvPut E D o i r l = zsL (zsC D (upw (dC D) c (putR (eS E) (eC E) (dC D c) r))) (upw (dL D) (spt o i) l) := by
          unfold mvPut
          rw [hky, ← hc]
          simp only [if_true, Nat.add_zero]
          have : upw (dN D) (spt o i) (dN D (spt o i)) = dN D := funext fun x => by
            by_cases hz : x = spt o i
            · rw [hz, upw_eq]
            · rw [upw_ne hz]
          rw [this]
          rfl
        obtain ⟨I3, e8, C3, F3⟩ := sendL_code sh hE hs len hlen l n (k + 1) (mvPut E D o i r l) I2 hD1 hI1 (by rw [hmv]; exact C2) (by omega) (by omega) (by rw [hmv]; show dN D (spt o i) + l.length < 2 ^ 31; omega)
        refine ⟨I3, ?_, C3, FX_tr (FX_tr F1 F2) F3⟩
        simp (disch := omega) only [↓gI_t, ↓pI_t, ↓pZ_t, ↓ck_t, ↓aN_t, ↓cI_s, ↓cV_s, ↓cR_s, ↓onR_s, ↓onR_n, ↓nmI_t, ↓reduceIte, gA_t, aI_t, sI_t, aA_t, aB_t, sB_t, rmI_t, dvI_t, nI_add, pk_mul, pk_sub, nI_leI, nI_ltI, nI_eq, n_leT, n_leF, n_ltT, n_ltF, n_eqT, n_eqF, u2_ne, u2_at, u2_nj, r2_ne, r2_at, ↓i_neg1, m1_ne, m1_en, m1_lt, m1_le, m1_nlt, m1_nle, i_lits, true_and, and_true, ksm, e1, e2, e3, kch1, e4, b01, krc, a1, a2, a3, e5, e6, kop1, e7, e8, ↓reduceIte]
      | false =>
        rw [hky] at e7
        obtain ⟨C3, F3⟩ := CT_N (o := o) (i := i) (m := dN D (spt o i) + 1) hE C2 (by omega) i3
        have hmv : mvPut E D o i r l = zsN (zsL (zsC D (upw (dC D) c (putR (eS E) (eC E) (dC D c) r))) (upw (dL D) (spt o i) l)) (upw (dN D) (spt o i) (dN D (spt o i) + 1)) := by
          unfold mvPut
          rw [hky, ← hc]
          rfl
        obtain ⟨I4, e8, C4, F4⟩ := sendL_code sh hE hs len hlen l n (k + 1) (mvPut E D o i r l) _ hD1 hI1 (by rw [hmv]; exact C3) (by omega) (by omega) (by rw [hmv]; simp only [gs_N]; rw [upw_eq]; omega)
        refine ⟨I4, ?_, C4, FX_tr (FX_tr (FX_tr F1 F2) F3) F4⟩
        simp (disch := omega) only [↓gI_t, ↓pI_t, ↓pZ_t, ↓ck_t, ↓aN_t, ↓cI_s, ↓cV_s, ↓cR_s, ↓onR_s, ↓onR_n, ↓nmI_t, ↓reduceIte, gA_t, aI_t, sI_t, aA_t, aB_t, sB_t, rmI_t, dvI_t, nI_add, pk_mul, pk_sub, nI_leI, nI_ltI, nI_eq, n_leT, n_leF, n_ltT, n_ltF, n_eqT, n_eqF, u2_ne, u2_at, u2_nj, r2_ne, r2_at, ↓i_neg1, m1_ne, m1_en, m1_lt, m1_le, m1_nlt, m1_nle, i_lits, true_and, and_true, ksm, e1, e2, e3, kch1, e4, b01, krc, a1, a2, a3, e5, e6, kop1, e7, Bool.false_eq_true, kin1, hcnt, e8, ↓reduceIte]
theorem sendList_code (sh : shSm T) (hE : okE E) (hs : vS E o i) (hI : Inv E D) (hC : CT E D g Q I T) (hN : dN D (spt o i) + 3 < 2 ^ 31) : ∃ I', f_sm_sendList 10 (nI o) (nI i) (20 + 33 * o + 18 + 5 * i) ((I, T) : Mem) = some (nI (b01 (sendL E o i (dL D (spt o i)) D).1), ((I', T) : Mem)) ∧ CT E (sendL E o i (dL D (spt o i)) D).2 g Q I' T ∧ FX T I I' := by
  have n4 := hE.1
  have i3 := hs.i3 hE
  have ho := hs.1
  have hl3 := (hI.2.2.1 o i hs).1
  have hlen := (hC.2.2.1 o i (by omega) i3).1.2.2.1
  have kin := (sh.op (o := o) (by omega)).inn i3
  have kin1 := kin.1
  have kin2 := kin.2.1
  have krc := kin.2.2.1
  obtain ⟨I', e, c, f⟩ := sendL_code sh hE hs _ hl3 (dL D (spt o i)) FU 0 D I rfl hI hC (by omega) (by unfold FU; omega) (by omega)
  refine ⟨I', ?_, c, f⟩
  unfold f_sm_sendList
  simp (disch := omega) only [↓gI_t, ↓pI_t, ↓pZ_t, ↓ck_t, ↓aN_t, ↓cI_s, ↓cV_s, ↓cR_s, ↓onR_s, ↓onR_n, ↓nmI_t, ↓reduceIte, gA_t, aI_t, sI_t, aA_t, aB_t, sB_t, rmI_t, dvI_t, nI_add, pk_mul, pk_sub, nI_leI, nI_ltI, nI_eq, n_leT, n_leF, n_ltT, n_ltF, n_eqT, n_eqF, u2_ne, u2_at, u2_nj, r2_ne, r2_at, ↓i_neg1, m1_ne, m1_en, m1_lt, m1_le, m1_nlt, m1_nle, i_lits, true_and, and_true, kin1, kin2, krc, hlen, e]
-- the barrier
def barJ (D : Dy) (o i m : Nat) : Nat → Ch := fun c => if lin o i 0 ≤ c ∧ c < lin o i m then putB (dC D c) else dC D c
theorem bar_code (sh : shSm T) (hE : okE E) (ho : o ≤ eN E) (hi : i < eP E o) (hI : Inv E D) (ht : ∀ j, j < eP E (o + 1) → tkB (eC E) (dC D (lin o i j)) = true) : ∀ (d n j : Nat) (I : Iw), j + d = eP E (o + 1) → d < n → CT E (zsC D (barJ D o i j)) g Q I T → ∃ I', f_sm_sendBarrier_23 n 10 (nI o) (nI i) (20 + 33 * o + 18 + 5 * i) (nI j) ((I, T) : Mem) = some (nI 1, ((I', T) : Mem)) ∧ CT E (mvBar E D o i) g Q I' T ∧ FX T I I'
  | d, 0, j, I, _, hn, _ => by omega
  | 0, n + 1, j, I, hj, hn, hC => by
    have n4 := hE.1
    have i3 : i < 3 := Nat.lt_of_lt_of_le hi (hE.p3 (by omega))
    have p3 := hE.p3 (o := o + 1) (by omega)
    obtain ⟨C1, F1⟩ := CT_H (b := false) hE hC (o := o) (i := i) (by omega) i3
    have e := sm_sizeOf (T := T) (o := o + 1) sh hC.1 n4 (by omega)
    rw [if_pos (by omega)] at e
    have ksm := sh.1
    have kin1 := ((sh.op (o := o) (by omega)).inn i3).1
    refine ⟨u2 I (20 + 33 * o + 18 + 5 * i) 1 (nI (b01 false)), ?_, ?_, F1⟩
    · unfold f_sm_sendBarrier_23
      simp (disch := omega) only [↓gI_t, ↓pI_t, ↓pZ_t, ↓ck_t, ↓aN_t, ↓cI_s, ↓cV_s, ↓cR_s, ↓onR_s, ↓onR_n, ↓nmI_t, ↓reduceIte, gA_t, aI_t, sI_t, aA_t, aB_t, sB_t, rmI_t, dvI_t, nI_add, pk_mul, pk_sub, nI_leI, nI_ltI, nI_eq, n_leT, n_leF, n_ltT, n_ltF, n_eqT, n_eqF, u2_ne, u2_at, u2_nj, r2_ne, r2_at, ↓i_neg1, m1_ne, m1_en, m1_lt, m1_le, m1_nlt, m1_nle, i_lits, true_and, and_true, ksm, e, kin1, b01, Bool.false_eq_true]
    · have hb : barJ D o i j = barC E D o i := by
        unfold barJ barC
        rw [show j = eP E (o + 1) by omega]
      rw [hb] at C1
      exact C1
  | d + 1, n + 1, j, I, hj, hn, hC => by
    have n4 := hE.1
    have i3 : i < 3 := Nat.lt_of_lt_of_le hi (hE.p3 (by omega))
    have p3 := hE.p3 (o := o + 1) (by omega)
    have v : vC E o i j := ⟨ho, hi, by omega⟩
    have hl45 := lin45 hE v
    have e := sm_sizeOf (T := T) (o := o + 1) sh hC.1 n4 (by omega)
    rw [if_pos (by omega)] at e
    have e2 := sm_chAt (T := T) sh hC.1 hE v
    have kch := sh.ch hl45
    have hch := hC.2.1 _ hl45
    have hsame : barJ D o i j (lin o i j) = dC D (lin o i j) := by
      unfold barJ
      exact if_neg (by omega)
    simp only [gs_C] at hch
    rw [hsame] at hch
    obtain ⟨I1, e3, f1, r1⟩ := ch_putBarrier (T := T) kch hch (hI.1 _ _ _ v).1 hE.2.2.2.2.2.2.2.1.2 hE.2.2.2.2.2.2.2.2.2.1.2 (ht j (by omega))
    obtain ⟨C1, F1⟩ := CT_ch hE hC hl45 f1 r1
    have hnew : zsC (zsC D (barJ D o i j)) (upw (dC (zsC D (barJ D o i j))) (lin o i j) (putB (dC D (lin o i j)))) = zsC D (barJ D o i (j + 1)) := by
      have : upw (dC (zsC D (barJ D o i j))) (lin o i j) (putB (dC D (lin o i j))) = barJ D o i (j + 1) := funext fun x => by
        simp only [gs_C]
        by_cases hz : x = lin o i j
        · rw [hz, upw_eq]
          unfold barJ
          rw [if_pos (by unfold lin; omega)]
        · rw [upw_ne hz]
          unfold barJ
          by_cases hy : lin o i 0 ≤ x ∧ x < lin o i j
          · rw [if_pos hy, if_pos (by unfold lin at *; omega)]
          · rw [if_neg hy, if_neg (by unfold lin at *; omega)]
      rw [this]
      rfl
    rw [hnew] at C1
    obtain ⟨I2, e4, C2, F2⟩ := bar_code sh hE ho hi hI ht d n (j + 1) I1 (by omega) (by omega) C1
    have ksm := sh.1
    have kch1 := kch.1
    refine ⟨I2, ?_, C2, FX_tr F1 F2⟩
    unfold f_sm_sendBarrier_23 f_sm_sendBarrier_55
    simp (disch := omega) only [↓gI_t, ↓pI_t, ↓pZ_t, ↓ck_t, ↓aN_t, ↓cI_s, ↓cV_s, ↓cR_s, ↓onR_s, ↓onR_n, ↓nmI_t, ↓reduceIte, gA_t, aI_t, sI_t, aA_t, aB_t, sB_t, rmI_t, dvI_t, nI_add, pk_mul, pk_sub, nI_leI, nI_ltI, nI_eq, n_leT, n_leF, n_ltT, n_ltF, n_eqT, n_eqF, u2_ne, u2_at, u2_nj, r2_ne, r2_at, ↓i_neg1, m1_ne, m1_en, m1_lt, m1_le, m1_nlt, m1_nle, i_lits, true_and, and_true, ksm, e, e2, kch1, e3, e4]
theorem sendBarrier_code (sh : shSm T) (hE : okE E) (hs : vS E o i) (hI : Inv E D) (hC : CT E D g Q I T) : ∃ I', f_sm_sendBarrier 10 (nI o) (nI i) (20 + 33 * o + 18 + 5 * i) ((I, T) : Mem) = some (nI (b01 (sendB E D o i).1), ((I', T) : Mem)) ∧ CT E (sendB E D o i).2 g Q I' T ∧ FX T I I' := by
  have n4 := hE.1
  have i3 := hs.i3 hE
  have ho5 := hs.1
  have hh := (hC.2.2.1 o i (by omega) i3).2.1
  have kin1 := ((sh.op (o := o) (by omega)).inn i3).1
  have ksm := sh.1
  unfold f_sm_sendBarrier sendB
  cases hH : dH D (spt o i) with
  | false =>
    rw [hH] at hh
    refine ⟨I, ?_, hC, FX_rf⟩
    simp (disch := omega) only [↓gI_t, ↓pI_t, ↓pZ_t, ↓ck_t, ↓aN_t, ↓cI_s, ↓cV_s, ↓cR_s, ↓onR_s, ↓onR_n, ↓nmI_t, ↓reduceIte, gA_t, aI_t, sI_t, aA_t, aB_t, sB_t, rmI_t, dvI_t, nI_add, pk_mul, pk_sub, nI_leI, nI_ltI, nI_eq, n_leT, n_leF, n_ltT, n_ltF, n_eqT, n_eqF, u2_ne, u2_at, u2_nj, r2_ne, r2_at, ↓i_neg1, m1_ne, m1_en, m1_lt, m1_le, m1_nlt, m1_nle, i_lits, true_and, and_true, kin1, hh, b01, Bool.false_eq_true]
  | true =>
    rw [hH] at hh
    have ho := src_of_hold hE hI hs hH
    have e1 := sm_refus (T := T) sh hC.1 hE hC.2.1 hI.1 ho hs.2
    cases hr : refus E D o i with
    | some j =>
      rw [hr] at e1
      have hj := (refus_some hr).1
      have p3 := hE.p3 (o := o + 1) (by omega)
      have e1' : f_sm_targetWithoutRoom 10 (nI o) (nI i) ((I, T) : Mem) = some (nI j, ((I, T) : Mem)) := e1
      refine ⟨I, ?_, hC, FX_rf⟩
      simp (disch := omega) only [↓gI_t, ↓pI_t, ↓pZ_t, ↓ck_t, ↓aN_t, ↓cI_s, ↓cV_s, ↓cR_s, ↓onR_s, ↓onR_n, ↓nmI_t, ↓reduceIte, gA_t, aI_t, sI_t, aA_t, aB_t, sB_t, rmI_t, dvI_t, nI_add, pk_mul, pk_sub, nI_leI, nI_ltI, nI_eq, n_leT, n_leF, n_ltT, n_ltF, n_eqT, n_eqF, u2_ne, u2_at, u2_nj, r2_ne, r2_at, ↓i_neg1, m1_ne, m1_en, m1_lt, m1_le, m1_nlt, m1_nle, i_lits, true_and, and_true, kin1, hh, b01, ksm, e1', Bool.false_eq_true]
    | none =>
      rw [hr] at e1
      have e1' : f_sm_targetWithoutRoom 10 (nI o) (nI i) ((I, T) : Mem) = some (m1, ((I, T) : Mem)) := e1
      have p3 := hE.p3 (o := o + 1) (by omega)
      have h0 : zsC D (barJ D o i 0) = D := by
        have : barJ D o i 0 = dC D := funext fun x => by
          unfold barJ
          exact if_neg (by omega)
        rw [this]
        rfl
      obtain ⟨I1, e2, C1, F1⟩ := bar_code (g := g) (Q := Q) sh hE ho hs.2 hI (refus_none hr) (eP E (o + 1)) FU 0 I (by omega) (by unfold FU; omega) (by rw [h0]; exact hC)
      refine ⟨I1, ?_, C1, F1⟩
      simp (disch := omega) only [↓gI_t, ↓pI_t, ↓pZ_t, ↓ck_t, ↓aN_t, ↓cI_s, ↓cV_s, ↓cR_s, ↓onR_s, ↓onR_n, ↓nmI_t, ↓reduceIte, gA_t, aI_t, sI_t, aA_t, aB_t, sB_t, rmI_t, dvI_t, nI_add, pk_mul, pk_sub, nI_leI, nI_ltI, nI_eq, n_leT, n_leF, n_ltT, n_ltF, n_eqT, n_eqF, u2_ne, u2_at, u2_nj, r2_ne, r2_at, ↓i_neg1, m1_ne, m1_en, m1_lt, m1_le, m1_nlt, m1_nle, i_lits, true_and, and_true, kin1, hh, b01, ksm, e1', e2]
end
