/-! THE REFERENCE: a barrier taken; works -/
section
variable {T : Tl} {I I' : Iw} {E : Env} {D : Dy} {Q : Slow} {o i j s c r tk lo ag : Nat}
/-- while a barrier is taken the checkpoint runs on -/
theorem tb_runs (hE : okE E) (hI : Inv E D) (hs : vS E o i) (t3 : dD D (spt o i) = false) : dW D < eP E (eN E + 1) := by
  have hle : dW D ≤ eP E (eN E + 1) := by
    rw [hI.2.2.2.2.2.1]
    exact sum_le _ _
  by_cases hz : dW D = eP E (eN E + 1)
  · have := (all_done hE hI hz (eN E + 1 - o) o i hs rfl).1
    rw [t3] at this
    cases this
  · omega
/-- what follows a full mask -/
def fulD (E : Env) (D : Dy) (o i : Nat) : Dy :=
  if o = eN E + 1 then zsW (saves E (zsS D (upw (dS D) (spt o i) 0)) o i) (dW D + 1) else zsH (saves E (zsS D (upw (dS D) (spt o i) 0)) o i) (upw (dH D) (spt o i) true)
theorem m_barrier (sh : shM T) (hE : okE E) (hC : MR E D Q (eQ E) tk I T) (hs : vS E o i) (h1 : 1 ≤ o) (hz : zK E (dK D)) (hz2 : zK E (dG D)) (hQ : eQ E ≠ 0) (hW : dW D < eP E (eN E + 1)) {f : Nat} (hf : f < 3) (hm : dS D (spt o i) < 8) (hb : bit (dS D (spt o i)) f = 0) : ∃ I' D', f_m_barrier 492 (nI o) (nI i) (nI f) ((I, T) : Mem) = some ((I', T) : Mem) ∧ D' = (if (dS D (spt o i) ||| 1 <<< f) = 2 ^ eP E (o - 1) - 1 then fulD E D o i else zsS D (upw (dS D) (spt o i) (dS D (spt o i) ||| 1 <<< f))) ∧ MR E D' (if dW D' = eP E (eN E + 1) then (qP Q, qP Q, dR D', dG D', eQ E, qF Q, qB Q) else Q) (if dW D' = eP E (eN E + 1) then 0 else eQ E) tk I' T ∧ FM I I' := by
  have n4 := hE.1
  have ho := hs.1
  have i3 := hs.i3 hE
  have s18 := spt18 hE hs
  have p3 := hE.p3 (o := o - 1) (by omega)
  have h28 : (2 : Nat) ^ eP E (o - 1) ≤ 2 ^ 3 := Nat.pow_le_pow_right (by omega) p3
  have p3' := hE.p3 (o := eN E + 1) (by omega)
  obtain ⟨-, -, -, c4⟩ := hC.1.op (o := o - 1) (by omega)
  have ms := mask_set ⟨dS D (spt o i), by omega⟩ ⟨f, by omega⟩
  have ma := mask_all ⟨eP E (o - 1), by omega⟩
  have hor8 := (mask_or ⟨dS D (spt o i), by omega⟩ ⟨f, by omega⟩ ⟨f, by omega⟩ hb).2.1
  simp only at ms ma hor8
  obtain ⟨m, hm'⟩ : ∃ m, m = (dS D (spt o i) ||| 1 <<< f) := ⟨_, rfl⟩
  rw [← hm'] at ms hor8 ⊢
  have hst := (hC.2.2.1 (spt o i) s18).2.1
  obtain ⟨C1, F1⟩ := MR_S (s := spt o i) (m := m) hC
  obtain ⟨I1, hI1⟩ : ∃ I1, I1 = u2 I 520 (spt o i) (nI m) := ⟨_, rfl⟩
  rw [← hI1] at C1 F1
  have e3 := fun M => m_spot o i M
  have i20 : I1 520 (spt o i) = nI m := by rw [hI1]; exact u2_at rfl rfl
  have hmlt : 2 ^ eP E (o - 1) - 1 < 2 ^ 31 := by omega
  obtain ⟨w, hw⟩ : ∃ w, w = 2 ^ eP E (o - 1) - 1 := ⟨_, rfl⟩
  rw [← hw] at hmlt ma ⊢
  by_cases hful : m = w
  · rw [if_pos hful]
    obtain ⟨C2, F2⟩ := MR_S (s := spt o i) (m := 0) C1
    have hss : zsS (zsS D (upw (dS D) (spt o i) m)) (upw (dS (zsS D (upw (dS D) (spt o i) m))) (spt o i) 0) = zsS D (upw (dS D) (spt o i) 0) := by
      refine Dy_ext ?_ ?_ ?_ ?_ ?_ ?_ ?_ ?_ ?_ ?_ ?_ ?_ ?_ ?_ ?_ ?_ ?_ ?_ ?_ <;> simp only [gs_S, upw_upw]
    rw [hss] at C2
    obtain ⟨I2, hI2⟩ : ∃ I2, I2 = u2 I1 520 (spt o i) (nI 0) := ⟨_, rfl⟩
    rw [← hI2] at C2 F2
    obtain ⟨I3, e4, C3, F3⟩ := m_saves (T := T) sh hE C2 hs (by simp only [gs_S]; exact hz) (by simp only [gs_S]; exact hz2)
    have e5 := m_sink (T := T) (E := E) sh C3.1.1
    have h38 : I3 492 38 = nI (dW D) := C3.2.2.2.2.2.1.2.2 hQ
    have ho' := C3.1.op ho
    have c5 := ho'.2.2.2
    rw [hful] at i20 hI1 ms
    by_cases hoz : o = eN E + 1
    · obtain ⟨C4, F4⟩ := MR_W (m := dW D + 1) C3
      obtain ⟨I4, hI4⟩ : ∃ I4, I4 = u2 I3 492 38 (nI (dW D + 1)) := ⟨_, rfl⟩
      rw [← hI4] at C4 F4
      have i38 : I4 492 38 = nI (dW D + 1) := by rw [hI4]; exact u2_at rfl rfl
      have c6 := (C4.1.op ho).2.2.2
      have c6' : I4 497 o = nI (eP E (eN E + 1)) := by rw [c6, hoz]
      have hfD : fulD E D o i = zsW (saves E (zsS D (upw (dS D) (spt o i) 0)) o i) (dW D + 1) := if_pos hoz
      have hdW : dW (fulD E D o i) = dW D + 1 := by rw [hfD]; rfl
      have hc5 : I3 497 o = nI (eP E (eN E + 1)) := by rw [c5, hoz]
      by_cases hWp : dW D + 1 = eP E (eN E + 1)
      · obtain ⟨I5, e6, C5, F5⟩ := m_completes (T := T) sh C4
        refine ⟨I5, fulD E D o i, ?_, rfl, ?_, FM_tr F1 (FM_tr F2 (FM_tr F3 (FM_tr F4 F5)))⟩
        · unfold f_m_barrier
          simp (disch := omega) only [↓sh.gI, ↓sh.pI, ↓sh.ck, ↓cI_x, ↓cV_x, ↓nmI_t, ↓reduceIte, rmI_t, dvI_t, nI_add, pk_mul, pk_sub, nI_leI, nI_ltI, nI_eq, n_leT, n_leF, n_ltT, n_ltF, n_eqT, n_eqF, u2_ne, u2_at, u2_nj, ↓i_neg1, m1_ne, m1_en, m1_lt, m1_le, m1_nlt, m1_nle, i_lits, true_and, and_true, ↓sh.g6, ↓sh.g43, ↓sh.g45, sh.a497, sh.a520, sh.a522, sh.s497, sh.s520, sh.s522, e3, hst, ms, ← hI1, i20, c4, ma, ← hI2, e4, e5, h38, ← hI4, i38, c6', hc5, e6]
        · rw [hdW, if_pos hWp, if_pos hWp]
          rw [← hfD] at C5
          exact C5
      · refine ⟨I4, fulD E D o i, ?_, rfl, ?_, FM_tr F1 (FM_tr F2 (FM_tr F3 F4))⟩
        · unfold f_m_barrier
          simp (disch := omega) only [↓sh.gI, ↓sh.pI, ↓sh.ck, ↓cI_x, ↓cV_x, ↓nmI_t, ↓reduceIte, rmI_t, dvI_t, nI_add, pk_mul, pk_sub, nI_leI, nI_ltI, nI_eq, n_leT, n_leF, n_ltT, n_ltF, n_eqT, n_eqF, u2_ne, u2_at, u2_nj, ↓i_neg1, m1_ne, m1_en, m1_lt, m1_le, m1_nlt, m1_nle, i_lits, true_and, and_true, ↓sh.g6, ↓sh.g43, ↓sh.g45, sh.a497, sh.a520, sh.a522, sh.s497, sh.s520, sh.s522, e3, hst, ms, ← hI1, i20, c4, ma, ← hI2, e4, e5, h38, ← hI4, i38, c6', hc5]
        · rw [hdW, if_neg hWp, if_neg hWp]
          rw [← hfD] at C4
          exact C4
    · have hfD : fulD E D o i = zsH (saves E (zsS D (upw (dS D) (spt o i) 0)) o i) (upw (dH D) (spt o i) true) := if_neg hoz
      have hdW : dW (fulD E D o i) = dW D := by rw [hfD]; rfl
      obtain ⟨C4, F4⟩ := MR_H (s := spt o i) (m := true) C3
      refine ⟨u2 I3 522 (spt o i) (nI 1), fulD E D o i, ?_, rfl, ?_, FM_tr F1 (FM_tr F2 (FM_tr F3 F4))⟩
      · unfold f_m_barrier
        simp (disch := omega) only [↓sh.gI, ↓sh.pI, ↓sh.ck, ↓cI_x, ↓cV_x, ↓nmI_t, ↓reduceIte, rmI_t, dvI_t, nI_add, pk_mul, pk_sub, nI_leI, nI_ltI, nI_eq, n_leT, n_leF, n_ltT, n_ltF, n_eqT, n_eqF, u2_ne, u2_at, u2_nj, ↓i_neg1, m1_ne, m1_en, m1_lt, m1_le, m1_nlt, m1_nle, i_lits, true_and, and_true, ↓sh.g6, ↓sh.g43, ↓sh.g45, sh.a497, sh.a520, sh.a522, sh.s497, sh.s520, sh.s522, e3, hst, ms, ← hI1, i20, c4, ma, ← hI2, e4, e5]
      · rw [hdW, if_neg (by omega), if_neg (by omega), hfD]
        exact C4
  · rw [if_neg hful]
    refine ⟨I1, _, ?_, rfl, ?_, F1⟩
    · unfold f_m_barrier
      simp (disch := omega) only [↓sh.gI, ↓sh.pI, ↓sh.ck, ↓cI_x, ↓cV_x, ↓nmI_t, ↓reduceIte, rmI_t, dvI_t, nI_add, pk_mul, pk_sub, nI_leI, nI_ltI, nI_eq, n_leT, n_leF, n_ltT, n_ltF, n_eqT, n_eqF, u2_ne, u2_at, u2_nj, ↓i_neg1, m1_ne, m1_en, m1_lt, m1_le, m1_nlt, m1_nle, i_lits, true_and, and_true, ↓sh.g6, ↓sh.g43, ↓sh.g45, sh.a497, sh.a520, sh.a522, sh.s497, sh.s520, sh.s522, e3, hst, ms, ← hI1, i20, c4, ma]
    · have hdW : dW (zsS D (upw (dS D) (spt o i) m)) = dW D := rfl
      rw [hdW, if_neg (by omega), if_neg (by omega)]
      exact C1
theorem m_takesB (sh : shM T) (hE : okE E) (hI : Inv E D) (hB : Bd E D lo ag) (hC : MR E D (fQ E D Q) (fR E D) tk I T) (hs : vS E o i) (h1 : 1 ≤ o) (hz : zK E (dK D)) (hz2 : eQ E ≠ 0 → zK E (dG D)) {f : Nat} (hr : ready E D o i = some f) {q : List Bt} (hq' : (dC D (lin (o - 1) f i)).1 = none :: q) : ∃ I', f_m_takes 492 (nI o) (nI i) ((I, T) : Mem) = some (nI 1, ((I', T) : Mem)) ∧ MR E (mvTB E D o i f q) (fQ E (mvTB E D o i f q) Q) (fR E (mvTB E D o i f q)) tk I' T ∧ FM I I' := by
  have n4 := hE.1
  have ho := hs.1
  have i3 := hs.i3 hE
  have s18 := spt18 hE hs
  have hP := hB.1 (spt o i)
  obtain ⟨-, -, -, c4⟩ := hC.1.op (o := o - 1) (by omega)
  have e1 := m_ready (T := T) sh hE hC.1 hC.2.1 hC.2.2.1 hI h1 hs hP
  rw [hr] at e1
  have e1' : f_m_ready 492 (nI o) (nI i) ((I, T) : Mem) = some (nI f, ((I, T) : Mem)) := e1
  obtain ⟨b1, b2, b3⟩ := ready_some hE hI h1 hs hr
  have p1 := hE.p1 (o := o - 1) (by omega)
  have p3 := hE.p3 (o := o - 1) (by omega)
  have vc : vC E (o - 1) f i := ⟨by omega, b1, by rw [show o - 1 + 1 = o by omega]; exact hs.2⟩
  have hl45 := lin45 hE vc
  obtain ⟨-, -, t3, t4, t5⟩ := tb_pre hE hI h1 ho hs.2 b1 hq'
  have hW := tb_runs hE hI hs t3
  have hfQ : fQ E D Q = Q := by unfold fQ; rw [if_neg (by omega)]
  have hfR : fR E D = eQ E := by unfold fR; rw [if_neg (by omega)]
  rw [hfQ, hfR] at hC
  have hok := (hI.1 _ _ _ vc).1
  have k4 := hE.2.2.2.2.2.2.2.2.2.1.2
  have e2 := fun M => m_line (o - 1) f i M
  have e3 := fun M => m_spot o i M
  obtain ⟨c, hc⟩ : ∃ c, c = lin (o - 1) f i := ⟨_, rfl⟩
  rw [← hc] at e2 hl45 hok b3
  have hq : (dC D c).1 = none :: q := by rw [hc]; exact hq'
  have i30 : I 530 (4 * c) = m1 := by
    obtain ⟨-, -, -, -, t, -, -, -, h7⟩ := hC.2.1 c (by omega)
    rw [hq] at h7
    have := h7 0 (by simp)
    simp only [List.getElem_cons_zero] at this
    exact this.1
  obtain ⟨C1, F1⟩ := MR_P (s := spt o i) (m := (f + 1) % eP E (o - 1)) hC
  obtain ⟨I1, hI1⟩ : ∃ I1, I1 = u2 I 521 (spt o i) (nI ((f + 1) % eP E (o - 1))) := ⟨_, rfl⟩
  rw [← hI1] at C1 F1
  have hch1 := C1.2.1 c (by omega)
  simp only [gs_P] at hch1
  have i30' : I1 530 (4 * c) = m1 := by rw [hI1, u2_ne (by omega)]; exact i30
  have hq4 := hok.1
  obtain ⟨I2, e4, f2, k2⟩ := m_pops (T := T) sh hch1 (by omega) (by omega) hq
  obtain ⟨C2, F2⟩ := MR_C C1 f2 (fun y hy => by simp only [gs_P]; exact ch44 hE hI y hy) k2
  have hm := (hI.2.2.1 o i hs).2.2 h1
  have h28 : (2 : Nat) ^ eP E (o - 1) ≤ 2 ^ 3 := Nat.pow_le_pow_right (by omega) p3
  obtain ⟨I3, D', e5, hD', C3, F3⟩ := m_barrier (T := T) (f := f) sh hE C2 hs h1 (by simp only [gs_C, gs_P]; exact hz) (by simp only [gs_C, gs_P]; exact hz2 t5) t5 (by simp only [gs_C, gs_P]; exact hW) (by omega) (by simp only [gs_C, gs_P]; omega) (by simp only [gs_C, gs_P]; exact b2)
  have heq : D' = mvTB E D o i f q := by
    rw [hD']
    simp only [gs_C, gs_P]
    by_cases hful : (dS D (spt o i) ||| 1 <<< f) = 2 ^ eP E (o - 1) - 1
    · rw [if_pos hful]
      unfold fulD
      by_cases hoz : o = eN E + 1
      · rw [if_pos hoz]
        refine Dy_ext ?_ ?_ ?_ ?_ ?_ ?_ ?_ ?_ ?_ ?_ ?_ ?_ ?_ ?_ ?_ ?_ ?_ ?_ ?_ <;> simp only [tbs_f E D o i f q hful hoz, saves, gs_W, gs_D, gs_R, gs_G, gs_S, gs_C, gs_P, hc]
      · rw [if_neg hoz]
        refine Dy_ext ?_ ?_ ?_ ?_ ?_ ?_ ?_ ?_ ?_ ?_ ?_ ?_ ?_ ?_ ?_ ?_ ?_ ?_ ?_ <;> simp only [tbf_f E D o i f q hful hoz, saves, gs_H, gs_D, gs_R, gs_G, gs_S, gs_C, gs_P, hc]
    · rw [if_neg hful]
      refine Dy_ext ?_ ?_ ?_ ?_ ?_ ?_ ?_ ?_ ?_ ?_ ?_ ?_ ?_ ?_ ?_ ?_ ?_ ?_ ?_ <;> simp only [tbn_f E D o i f q hful, gs_S, gs_C, gs_P, hc]
  refine ⟨I3, ?_, ?_, FM_tr F1 (FM_tr F2 F3)⟩
  · unfold f_m_takes
    simp (disch := omega) only [↓sh.gI, ↓sh.pI, ↓sh.ck, ↓cI_x, ↓cV_x, ↓nmI_t, ↓reduceIte, rmI_t, dvI_t, nI_add, pk_mul, pk_sub, nI_leI, nI_ltI, nI_eq, n_leT, n_leF, n_ltT, n_ltF, n_eqT, n_eqF, u2_ne, u2_at, u2_nj, ↓i_neg1, m1_ne, m1_en, m1_lt, m1_le, m1_nlt, m1_nle, i_lits, true_and, and_true, ↓sh.g6, ↓sh.g11, ↓sh.g12, ↓sh.g20, ↓sh.g44, ↓sh.g52, ↓sh.g53, ↓sh.g54, ↓sh.g55, ↓sh.g56, sh.a497, sh.a498, sh.a499, sh.a500, sh.a521, sh.a529, sh.a530, sh.a531, sh.a532, sh.a533, sh.s497, sh.s498, sh.s499, sh.s500, sh.s521, sh.s529, sh.s530, sh.s531, sh.s532, sh.s533, e1', e3, c4, ← hI1, e2, i30, i30', e4, e5]
  · rw [heq] at C3
    unfold fQ fR
    by_cases hWp : dW (mvTB E D o i f q) = eP E (eN E + 1)
    · rw [if_pos hWp, if_pos hWp] at C3
      rw [if_pos ⟨t5, hWp⟩, if_pos ⟨t5, hWp⟩]
      exact C3
    · rw [if_neg hWp, if_neg hWp] at C3
      rw [if_neg (fun z => hWp z.2), if_neg (fun z => hWp z.2)]
      exact C3
theorem m_takes (sh : shM T) (hE : okE E) (hA : okA E) (hI : Inv E D) (hB : Bd E D lo ag) (hlo : eT E - lo < 40000) (hT : eT E < 2 ^ 30) (hC : MR E D (fQ E D Q) (fR E D) (eT E + 1) I T) (hs : vS E o i) (hl : dL D (spt o i) = []) (hz : zK E (dK D)) (hz2 : eQ E ≠ 0 → zK E (dG D)) : ∃ I' T', f_m_takes 492 (nI o) (nI i) ((I, T) : Mem) = some (nI (b01 (takes E D o i).1), ((I', T') : Mem)) ∧ MR E (takes E D o i).2 (fQ E (takes E D o i).2 Q) (fR E (takes E D o i).2) (eT E + 1) I' T' ∧ FM I I' ∧ JM T T' := by
  have n4 := hE.1
  have ho := hs.1
  by_cases h0 : o = 0
  · subst h0
    have hi : i = 0 := by have := hs.2; rw [hE.2.2.1] at this; omega
    subst hi
    obtain ⟨I1, e1, C1, F1⟩ := m_takes0 (T := T) sh hE hI hC hl
    have hf : fQ E (takes E D 0 0).2 Q = fQ E D Q ∧ fR E (takes E D 0 0).2 = fR E D := by
      unfold takes
      rw [if_pos rfl]
      cases (eI E)[dO D]? with
      | none => exact ⟨rfl, rfl⟩
      | some x => exact fQ_cg (by simp only [src_f]) (by simp only [src_f]) (by simp only [src_f])
    rw [hf.1, hf.2]
    exact ⟨I1, T, e1, C1, F1, JM_rf⟩
  · have h1 : 1 ≤ o := by omega
    rcases takes_cases hE hI hs h1 with ⟨hr, ht⟩ | ⟨f, q, hr, hq, ht⟩ | ⟨f, x, l, q, hr, hq, ht⟩
    · have e1 := m_ready (T := T) sh hE hC.1 hC.2.1 hC.2.2.1 hI h1 hs (hB.1 _)
      rw [hr] at e1
      have e1' : f_m_ready 492 (nI o) (nI i) ((I, T) : Mem) = some (m1, ((I, T) : Mem)) := e1
      rw [ht]
      refine ⟨I, T, ?_, hC, FM_rf, JM_rf⟩
      unfold f_m_takes
      simp (disch := omega) only [↓sh.gI, ↓sh.pI, ↓sh.ck, ↓cI_x, ↓cV_x, ↓nmI_t, ↓reduceIte, rmI_t, dvI_t, nI_add, pk_mul, pk_sub, nI_leI, nI_ltI, nI_eq, n_leT, n_leF, n_ltT, n_ltF, n_eqT, n_eqF, u2_ne, u2_at, u2_nj, ↓i_neg1, m1_ne, m1_en, m1_lt, m1_le, m1_nlt, m1_nle, i_lits, true_and, and_true, ↓sh.g6, ↓sh.g11, ↓sh.g12, ↓sh.g20, ↓sh.g44, ↓sh.g52, ↓sh.g53, ↓sh.g54, ↓sh.g55, ↓sh.g56, sh.a497, sh.a498, sh.a499, sh.a500, sh.a521, sh.a529, sh.a530, sh.a531, sh.a532, sh.a533, sh.s497, sh.s498, sh.s499, sh.s500, sh.s521, sh.s529, sh.s530, sh.s531, sh.s532, sh.s533, e1', b01, Bool.false_eq_true]
    · obtain ⟨I1, e1, C1, F1⟩ := m_takesB (T := T) sh hE hI hB hC hs h1 hz hz2 hr hq
      rw [ht]
      exact ⟨I1, T, e1, C1, F1, JM_rf⟩
    · obtain ⟨I1, T1, e1, C1, F1, J1⟩ := m_takesR (T := T) sh hE hA hI hB hlo hT hC hs h1 hl hz hr hq
      rw [ht]
      have hf := fQ_cg (E := E) (Q := Q) (D := D) (D' := mvTR E D o i f x l q) (by simp only [tr_f]) (by simp only [tr_f]) (by simp only [tr_f])
      simp only
      rw [hf.1, hf.2]
      exact ⟨I1, T1, e1, C1, F1, J1⟩
end
