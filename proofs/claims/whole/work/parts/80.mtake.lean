/-! THE REFERENCE: taking -/
section
variable {T : Tl} {I I' : Iw} {E : Env} {D : Dy} {Q : Slow} {o i j s c r tk lo ag : Nat}
theorem fQ_cg {D' : Dy} (h1 : dW D' = dW D) (h2 : dR D' = dR D) (h3 : dG D' = dG D) : fQ E D' Q = fQ E D Q ∧ fR E D' = fR E D := by
  unfold fQ fR
  rw [h1, h2, h3]
  exact ⟨rfl, rfl⟩
theorem m_takes0 (sh : shM T) (hE : okE E) (hI : Inv E D) (hC : MR E D Q r (eT E + 1) I T) (hl : dL D 0 = []) : ∃ I', f_m_takes 492 (nI 0) (nI 0) ((I, T) : Mem) = some (nI (b01 (takes E D 0 0).1), ((I', T) : Mem)) ∧ MR E (takes E D 0 0).2 Q r (eT E + 1) I' T ∧ FM I I' := by
  have n4 := hE.1
  have hs : vS E 0 0 := ⟨Nat.zero_le _, by rw [hE.2.2.1]; omega⟩
  have h13 := hC.1.2.2.2.2.2.1
  have h14 := hC.2.2.2.2.2.1.1
  have h15 := hC.2.2.2.2.2.1.2.1
  have hle := hI.2.2.2.2.2.2.1
  have h60 := hE.2.2.2.2.2.2.2.2.2.2.2
  unfold takes
  rw [if_pos rfl]
  by_cases hz : dO D < (eI E).length
  · rw [List.getElem?_eq_getElem hz]
    obtain ⟨x, hx⟩ : ∃ x, x = (eI E)[dO D] := ⟨_, rfl⟩
    rw [← hx]
    obtain ⟨a1, a2⟩ := hC.1.2.2.2.2.2.2.2 (dO D) hz
    rw [← hx] at a1 a2
    have hx0 := (hC.2.2.2.2.1 0 (by omega)).1
    obtain ⟨C1, F1⟩ := MR_X (o := 0) (v := dX D 0 + nI 1) hC
    obtain ⟨I1, hI1⟩ : ∃ I1, I1 = u2 I 500 0 (dX D 0 + nI 1) := ⟨_, rfl⟩
    rw [← hI1] at C1 F1
    obtain ⟨I2, e2, C2, F2, -, -, g3⟩ := m_emits (T := T) sh hE C1 hs (by simp only [gs_X]; show (dL D 0).length < 3; rw [hl]; simp) (fun y hy => by simp only [gs_X]; exact li3 hE hI y hy) x.1 x.2 (eT E)
    have g492 : I2 492 = I 492 := by rw [g3, hI1, u2_ne (by omega)]
    have h14' : I2 492 14 = nI (dO D) := by rw [g492]; exact h14
    obtain ⟨C3, F3⟩ := MR_O (m := dO D + 1) C2
    have heq : ∀ D2 : Dy, D2 = zsO (zsY (zsL (zsX D (upw (dX D) 0 (dX D 0 + nI 1))) (upw (dL (zsX D (upw (dX D) 0 (dX D 0 + nI 1)))) (spt 0 0) (dL (zsX D (upw (dX D) 0 (dX D 0 + nI 1))) (spt 0 0) ++ [(x.1, x.2, eT E)]))) (upw (dY (zsX D (upw (dX D) 0 (dX D 0 + nI 1)))) 0 (dY (zsX D (upw (dX D) 0 (dX D 0 + nI 1))) 0 + nI 1))) (dO D + 1) → D2 = mvSrc E D x := fun D2 h => by
      have hl' : dL D (spt 0 0) = [] := hl
      refine Dy_ext ?_ ?_ ?_ ?_ ?_ ?_ ?_ ?_ ?_ ?_ ?_ ?_ ?_ ?_ ?_ ?_ ?_ ?_ ?_ <;> simp only [h, src_f, gs_Y, gs_L, gs_X, gs_O, nI_lit1, hl', List.nil_append]
      rfl
    rw [heq _ rfl] at C3
    refine ⟨u2 I2 492 14 (nI (dO D + 1)), ?_, C3, FM_tr F1 (FM_tr F2 F3)⟩
    unfold f_m_takes
    simp (disch := omega) only [↓sh.gI, ↓sh.pI, ↓sh.ck, ↓cI_x, ↓cV_x, ↓nmI_t, ↓reduceIte, rmI_t, dvI_t, nI_add, pk_mul, pk_sub, nI_leI, nI_ltI, nI_eq, n_leT, n_leF, n_ltT, n_ltF, n_eqT, n_eqF, u2_ne, u2_at, u2_nj, ↓i_neg1, m1_ne, m1_en, m1_lt, m1_le, m1_nlt, m1_nle, i_lits, true_and, and_true, ↓sh.g6, ↓sh.g11, ↓sh.g12, ↓sh.g20, ↓sh.g44, ↓sh.g52, ↓sh.g53, ↓sh.g54, ↓sh.g55, ↓sh.g56, sh.a497, sh.a498, sh.a499, sh.a500, sh.a521, sh.a529, sh.a530, sh.a531, sh.a532, sh.a533, sh.s497, sh.s498, sh.s499, sh.s500, sh.s521, sh.s529, sh.s530, sh.s531, sh.s532, sh.s533, h13, h14, h15, hx0, ← hI1, a1, a2, Nat.add_sub_cancel]
    have i14 : I1 492 14 = nI (dO D) := by rw [hI1, u2_ne (by omega)]; exact h14
    have i15 : I1 492 15 = nI (eT E + 1) := by rw [hI1, u2_ne (by omega)]; exact h15
    have i98 : I1 498 (dO D) = kv x.1 := by rw [hI1, u2_ne (by omega)]; exact a1
    have i99 : I1 499 (dO D) = x.2 := by rw [hI1, u2_ne (by omega)]; exact a2
    simp (disch := omega) only [↓sh.gI, ↓sh.pI, ↓sh.ck, ↓cI_x, ↓cV_x, ↓nmI_t, ↓reduceIte, rmI_t, dvI_t, nI_add, pk_mul, pk_sub, nI_leI, nI_ltI, nI_eq, n_leT, n_leF, n_ltT, n_ltF, n_eqT, n_eqF, u2_ne, u2_at, u2_nj, ↓i_neg1, m1_ne, m1_en, m1_lt, m1_le, m1_nlt, m1_nle, i_lits, true_and, and_true, ↓sh.g6, ↓sh.g11, ↓sh.g12, ↓sh.g20, ↓sh.g44, ↓sh.g52, ↓sh.g53, ↓sh.g54, ↓sh.g55, ↓sh.g56, sh.a497, sh.a498, sh.a499, sh.a500, sh.a521, sh.a529, sh.a530, sh.a531, sh.a532, sh.a533, sh.s497, sh.s498, sh.s499, sh.s500, sh.s521, sh.s529, sh.s530, sh.s531, sh.s532, sh.s533, i14, i15, i98, i99, Nat.add_sub_cancel, e2, h14', b01]
  · rw [List.getElem?_eq_none (by omega)]
    refine ⟨I, ?_, hC, FM_rf⟩
    have he : dO D = (eI E).length := by omega
    rw [he] at h14
    unfold f_m_takes
    simp (disch := omega) only [↓sh.gI, ↓sh.pI, ↓sh.ck, ↓cI_x, ↓cV_x, ↓nmI_t, ↓reduceIte, rmI_t, dvI_t, nI_add, pk_mul, pk_sub, nI_leI, nI_ltI, nI_eq, n_leT, n_leF, n_ltT, n_ltF, n_eqT, n_eqF, u2_ne, u2_at, u2_nj, ↓i_neg1, m1_ne, m1_en, m1_lt, m1_le, m1_nlt, m1_nle, i_lits, true_and, and_true, ↓sh.g6, ↓sh.g11, ↓sh.g12, ↓sh.g20, ↓sh.g44, ↓sh.g52, ↓sh.g53, ↓sh.g54, ↓sh.g55, ↓sh.g56, sh.a497, sh.a498, sh.a499, sh.a500, sh.a521, sh.a529, sh.a530, sh.a531, sh.a532, sh.a533, sh.s497, sh.s498, sh.s499, sh.s500, sh.s521, sh.s529, sh.s530, sh.s531, sh.s532, sh.s533, h13, h14, b01, Bool.false_eq_true]
/-- the first record of a channel is read, its place counted -/
theorem ChM_pop1 {h : Ch} {x : Rec} {l : List Rec} {q : List Bt} (hh : ChM I c h) (hq : h.1 = some (x :: l) :: q) : ∃ t, t + 1 + l.length ≤ 4 ∧ I 529 c = nI t ∧ I 530 (4 * c) = nI (t + 1 + l.length) ∧ I 531 (16 * c + t) = kv x.1 ∧ I 532 (16 * c + t) = x.2.1 ∧ I 533 (16 * c + t) = nI x.2.2 ∧ ChM (u2 I 529 c (nI (t + 1))) c (some l :: q, h.2) ∧ FrC c I (u2 I 529 c (nI (t + 1))) := by
  obtain ⟨h1, h2, h3, h4, t, t4, h5, h6, h7⟩ := hh
  rw [hq] at h3 h7
  have hb := h7 0 (by simp)
  simp only [if_true, List.getElem_cons_zero] at hb
  obtain ⟨b1, b2, b3⟩ := hb
  rw [List.length_cons] at b1 b2
  obtain ⟨c1, c2, c3⟩ := b3 0 (by simp)
  simp only [List.getElem_cons_zero, Nat.mul_zero, Nat.add_zero] at c1 c2 c3 b1
  refine ⟨t, by omega, h5, by rw [b1, show t + (l.length + 1) = t + 1 + l.length by omega], c1, c2, c3, ⟨by rw [u2_ne (by omega)]; exact h1, by rw [u2_ne (by omega)]; exact h2, ?_, ?_, t + 1, by omega, u2_at rfl rfl, fun hn => by simp at hn, fun y hy => ?_⟩, fun a ha => u2_ne (by omega), fun y hy => ?_, fun y hy => ?_, fun y hy => ?_⟩
  · rw [u2_ne (by omega)]
    simp only [List.length_cons] at h3 ⊢
    exact h3
  · intro j hj
    rw [u2_ne (by omega), u2_ne (by omega), u2_ne (by omega)]
    exact h4 j hj
  · have key : ∀ w, BtM I c y w ((some l :: q)[y]) → BtM (u2 I 529 c (nI (t + 1))) c y w ((some l :: q)[y]) := fun w hw => by
      unfold BtM at hw ⊢
      rw [u2_ne (by omega), u2_ne (by omega), u2_ne (by omega), u2_ne (by omega)]
      exact hw
    refine key _ ?_
    cases y with
    | zero =>
      simp only [if_true, List.getElem_cons_zero]
      refine ⟨?_, by omega, fun j hj => ?_⟩
      · rw [show 4 * c + 0 = 4 * c from rfl, b1, show t + (l.length + 1) = t + 1 + l.length by omega]
      · have := b3 (j + 1) (by simp; omega)
        simp only [List.getElem_cons_succ] at this
        rw [show 16 * c + 4 * 0 + (t + 1) + j = 16 * c + 4 * 0 + t + (j + 1) by omega]
        exact this
    | succ y =>
      have := h7 (y + 1) (by simp only [List.length_cons] at hy ⊢; exact hy)
      simp only [List.getElem_cons_succ] at this ⊢
      rw [if_neg (by omega)] at this ⊢
      exact this
  · simp (disch := omega) only [u2_ne, u2_nj]
    exact ⟨trivial, trivial, trivial, trivial⟩
  · simp (disch := omega) only [u2_ne]
    exact ⟨trivial, trivial, trivial, trivial⟩
  · simp (disch := omega) only [u2_ne]
    exact ⟨trivial, trivial, trivial⟩
theorem m_takesR (sh : shM T) (hE : okE E) (hA : okA E) (hI : Inv E D) (hB : Bd E D lo ag) (hlo : eT E - lo < 40000) (hT : eT E < 2 ^ 30) (hC : MR E D Q r (eT E + 1) I T) (hs : vS E o i) (h1 : 1 ≤ o) (hl : dL D (spt o i) = []) (h6 : zK E (dK D)) {f : Nat} (hr : ready E D o i = some f) {x : Rec} {l : List Rec} {q : List Bt} (hq' : (dC D (lin (o - 1) f i)).1 = some (x :: l) :: q) : ∃ I' T', f_m_takes 492 (nI o) (nI i) ((I, T) : Mem) = some (nI 1, ((I', T') : Mem)) ∧ MR E (mvTR E D o i f x l q) Q r (eT E + 1) I' T' ∧ FM I I' ∧ JM T T' := by
  have n4 := hE.1
  have ho := hs.1
  have i3 := hs.i3 hE
  have s18 := spt18 hE hs
  have hP := hB.1 (spt o i)
  obtain ⟨-, -, -, c4⟩ := hC.1.op (o := o - 1) (by omega)
  have e1 := m_ready (T := T) sh hE hC.1 hC.2.1 hC.2.2.1 hI h1 hs hP
  rw [hr] at e1
  have e1' : f_m_ready 492 (nI o) (nI i) ((I, T) : Mem) = some (nI f, ((I, T) : Mem)) := e1
  obtain ⟨b1, b2, b3⟩ := ready_some hE hI h1 hs hr
  have p1 := hE.p1 (o := o - 1) (by omega)
  have p3 := hE.p3 (o := o - 1) (by omega)
  have vc : vC E (o - 1) f i := ⟨by omega, b1, by rw [show o - 1 + 1 = o by omega]; exact hs.2⟩
  have hl45 := lin45 hE vc
  have hr2 : lo ≤ x.2.2 ∧ x.2.2 ≤ eT E := hB.2.2.1 (lin (o - 1) f i) x (by simp [flatH, hq', flatQ])
  have hok := (hI.1 _ _ _ vc).1
  have k4 := hE.2.2.2.2.2.2.2.2.2.1.2
  have e2 := fun M => m_line (o - 1) f i M
  have e3 := fun M => m_spot o i M
  obtain ⟨c, hc⟩ : ∃ c, c = lin (o - 1) f i := ⟨_, rfl⟩
  rw [← hc] at e2 hl45 hok b3
  have hq : (dC D c).1 = some (x :: l) :: q := by rw [hc]; exact hq'
  obtain ⟨t, d1, d2, d3, d4, d5, d6, d7, d8⟩ := ChM_pop1 (hC.2.1 c (by omega)) hq
  obtain ⟨C1, F1⟩ := MR_P (s := spt o i) (m := (f + 1) % eP E (o - 1)) hC
  obtain ⟨I1, hI1⟩ : ∃ I1, I1 = u2 I 521 (spt o i) (nI ((f + 1) % eP E (o - 1))) := ⟨_, rfl⟩
  rw [← hI1] at C1 F1
  have hch1 := C1.2.1 c (by omega)
  simp only [gs_P] at hch1
  obtain ⟨t', d1', d2', d3', d4', d5', d6', d7', d8'⟩ := ChM_pop1 hch1 hq
  have htt : nI t' = nI t := by rw [← d2', hI1, u2_ne (by omega), d2]
  have htt' : t' = t := (nI_eq (by omega) (by omega)).mp htt
  rw [htt'] at d1' d2' d3' d4' d5' d6' d7' d8'
  obtain ⟨I2, hI2⟩ : ∃ I2, I2 = u2 I1 529 c (nI (t + 1)) := ⟨_, rfl⟩
  rw [← hI2] at d7' d8'
  have i29 : I2 529 c = nI (t + 1) := by rw [hI2]; exact u2_at rfl rfl
  have i30 : I2 530 (4 * c) = nI (t + 1 + l.length) := by rw [hI2, u2_ne (by omega)]; exact d3'
  have hpre : f_m_takes 492 (nI o) (nI i) ((I, T) : Mem) = (if l = [] then cV (f_m_pops 492 (nI c) ((I2, T) : Mem)) fun M33 => f_m_takes_237 492 (nI o) (nI i) (kv x.1) x.2.1 (nI x.2.2) M33 else f_m_takes_237 492 (nI o) (nI i) (kv x.1) x.2.1 (nI x.2.2) ((I2, T) : Mem)) := by
    unfold f_m_takes
    by_cases hz : l = []
    · rw [if_pos hz]
      rw [hz, List.length_nil, Nat.add_zero] at i30 d3' d3
      simp (disch := omega) only [↓sh.gI, ↓sh.pI, ↓sh.ck, ↓cI_x, ↓cV_x, ↓nmI_t, ↓reduceIte, rmI_t, dvI_t, nI_add, pk_mul, pk_sub, nI_leI, nI_ltI, nI_eq, n_leT, n_leF, n_ltT, n_ltF, n_eqT, n_eqF, u2_ne, u2_at, u2_nj, ↓i_neg1, m1_ne, m1_en, m1_lt, m1_le, m1_nlt, m1_nle, i_lits, true_and, and_true, ↓sh.g6, ↓sh.g11, ↓sh.g12, ↓sh.g20, ↓sh.g44, ↓sh.g52, ↓sh.g53, ↓sh.g54, ↓sh.g55, ↓sh.g56, sh.a497, sh.a498, sh.a499, sh.a500, sh.a521, sh.a529, sh.a530, sh.a531, sh.a532, sh.a533, sh.s497, sh.s498, sh.s499, sh.s500, sh.s521, sh.s529, sh.s530, sh.s531, sh.s532, sh.s533, e1', e3, c4, ← hI1, e2, d3', d2', d4', d5', d6', d2, d3, d4, d5, d6, ← hI2, i29, i30]
    · rw [if_neg hz]
      have hz2 : 0 < l.length := List.length_pos_iff.mpr hz
      simp (disch := omega) only [↓sh.gI, ↓sh.pI, ↓sh.ck, ↓cI_x, ↓cV_x, ↓nmI_t, ↓reduceIte, rmI_t, dvI_t, nI_add, pk_mul, pk_sub, nI_leI, nI_ltI, nI_eq, n_leT, n_leF, n_ltT, n_ltF, n_eqT, n_eqF, u2_ne, u2_at, u2_nj, ↓i_neg1, m1_ne, m1_en, m1_lt, m1_le, m1_nlt, m1_nle, i_lits, true_and, and_true, ↓sh.g6, ↓sh.g11, ↓sh.g12, ↓sh.g20, ↓sh.g44, ↓sh.g52, ↓sh.g53, ↓sh.g54, ↓sh.g55, ↓sh.g56, sh.a497, sh.a498, sh.a499, sh.a500, sh.a521, sh.a529, sh.a530, sh.a531, sh.a532, sh.a533, sh.s497, sh.s498, sh.s499, sh.s500, sh.s521, sh.s529, sh.s530, sh.s531, sh.s532, sh.s533, e1', e3, c4, ← hI1, e2, d3', d2', d4', d5', d6', d2, d3, d4, d5, d6, ← hI2, i29, i30]
  have hq4 : (some l :: q).length ≤ 4 := by
    have := hok.1
    rw [hq, List.length_cons] at this
    rw [List.length_cons]
    omega
  have h44 := ch44 hE hI
  have fin : ∀ I3 : Iw, FrC c I1 I3 → ChM I3 c (if l = [] then q else some l :: q, (dC D c).2) → ∃ I' T', f_m_takes_237 492 (nI o) (nI i) (kv x.1) x.2.1 (nI x.2.2) ((I3, T) : Mem) = some (nI 1, ((I', T') : Mem)) ∧ MR E (mvTR E D o i f x l q) Q r (eT E + 1) I' T' ∧ FM I I' ∧ JM T T' := fun I3 f3 k3 => by
    obtain ⟨C3, F3⟩ := MR_C C1 f3 (fun y hy => by simp only [gs_P]; exact h44 y hy) k3
    obtain ⟨I4, T4, e4, C4, F4, J4⟩ := m_takesIn (T := T) sh hE hA C3 hs h1 x hr2.2 (by omega) hT (by simp only [gs_C, gs_P]; exact hl) (fun y hy => by simp only [gs_C, gs_P]; exact li3 hE hI y hy) (by simp only [gs_C, gs_P]; exact h6)
    refine ⟨I4, T4, ?_, ?_, FM_tr F1 (FM_tr F3 F4), J4⟩
    · unfold f_m_takes_237
      rw [sh.ck, e4, cV_x]
      rfl
    · have heq : ∀ D2 : Dy, D2 = zsC (zsP D (upw (dP D) (spt o i) ((f + 1) % eP E (o - 1)))) (upw (dC (zsP D (upw (dP D) (spt o i) ((f + 1) % eP E (o - 1))))) c (if l = [] then q else some l :: q, (dC D c).2)) → tinD E D2 o i x = mvTR E D o i f x l q := fun D2 h => by
        have hk : dK D2 = dK D := by rw [h]; simp only [gs_C, gs_P]
        refine Dy_ext ?_ ?_ ?_ ?_ ?_ ?_ ?_ ?_ ?_ ?_ ?_ ?_ ?_ ?_ ?_ ?_ ?_ ?_ ?_ <;> simp only [tinD, mvLat, tr_f, hk] <;> by_cases hz : o = eN E + 1 <;> simp only [hz, if_true, if_false, h, gs_U, gs_M, gs_T, gs_Y, gs_L, gs_K, gs_X, gs_C, gs_P, hc]
      rw [heq _ rfl] at C4
      exact C4
  rw [hpre]
  by_cases hz : l = []
  · rw [if_pos hz]
    obtain ⟨I3, e3', f3, k3⟩ := m_pops (T := T) sh d7' (by omega) hq4 rfl
    rw [e3', cV_x]
    refine fin I3 (FrC_tr d8' f3) ?_
    rw [if_pos hz]
    exact k3
  · rw [if_neg hz]
    refine fin I2 d8' ?_
    rw [if_neg hz]
    exact d7'
end
