/-! THE REFERENCE: a tick -/
section
variable {T : Tl} {I I' : Iw} {E : Env} {D : Dy} {Q : Slow} {o i j s c r tk lo ag : Nat}
theorem m_grow (sh : shM T) (hE : okE E) (hC : CoM I E) {h : Ch} (hh : ChM I c h) (hc : c < 54) (hl : h.1.length ≤ 4) (ho : h.2.1.length ≤ 4) (ha : h.2.2 < 2 ^ 30) (n : Nat) : ∃ I', f_m_ticks_17 (n + 1) 492 (nI c) ((I, T) : Mem) = f_m_ticks_17 n 492 (nI (c + 1)) ((I', T) : Mem) ∧ FrC c I I' ∧ ChM I' c (grow (eG E) (eC E) h) := by
  have h1 := hh.1
  have h2 := hh.2.1
  have h3 := hh.2.2.1
  have g8 := hC.2.2.1
  have g9 := hC.2.2.2.1
  have c4 := hE.2.2.2.2.2.2.2.2.2.1.2
  have gg := hE.2.2.2.2.2.2.2.2.1.2
  unfold grow
  by_cases hz : h.2.1 = []
  · rw [if_pos hz]
    rw [hz, List.length_nil] at h1
    refine ⟨I, ?_, FrC_rf, hh⟩
    conv => lhs; unfold f_m_ticks_17 f_m_ticks_76
    simp (disch := omega) only [↓sh.gI, ↓sh.pI, ↓sh.ck, ↓cI_x, ↓cV_x, ↓nmI_t, ↓reduceIte, rmI_t, dvI_t, nI_add, pk_mul, pk_sub, nI_leI, nI_ltI, nI_eq, n_leT, n_leF, n_ltT, n_ltF, n_eqT, n_eqF, u2_ne, u2_at, u2_nj, ↓i_neg1, m1_ne, m1_en, m1_lt, m1_le, m1_nlt, m1_nle, i_lits, true_and, and_true, ↓sh.g46, ↓sh.g47, ↓sh.g51, sh.a523, sh.a524, sh.a528, sh.s523, sh.s524, sh.s528, h1]
  · rw [if_neg hz]
    have zl : 0 < h.2.1.length := List.length_pos_iff.mpr hz
    obtain ⟨I1, hI1⟩ : ∃ I1, I1 = u2 I 524 c (nI (h.2.2 + 1)) := ⟨_, rfl⟩
    have f1 : FrC c I I1 := by
      refine ⟨fun a ha => ?_, fun x hx => ?_, fun x hx => ?_, fun x hx => ?_⟩ <;> rw [hI1]
      · rw [u2_ne (by omega)]
      · simp (disch := omega) only [u2_ne, u2_nj]
        exact ⟨trivial, trivial, trivial, trivial⟩
      · simp (disch := omega) only [u2_ne]
        exact ⟨trivial, trivial, trivial, trivial⟩
      · simp (disch := omega) only [u2_ne]
        exact ⟨trivial, trivial, trivial⟩
    have k1 : ChM I1 c (h.1, h.2.1, h.2.2 + 1) := by
      obtain ⟨q1, q2, q3, q4, t, q5, q6, q7, q8⟩ := hh
      have e0 : ∀ a, a ≠ 524 → I1 a = I a := fun a h => by rw [hI1, u2_ne h]
      refine ⟨by rw [e0 523 (by omega)]; exact q1, by rw [hI1]; exact u2_at rfl rfl, by rw [e0 528 (by omega)]; exact q3, fun j hj => by rw [e0 525 (by omega), e0 526 (by omega), e0 527 (by omega)]; exact q4 j hj, t, q5, by rw [e0 529 (by omega)]; exact q6, q7, fun x hx => ?_⟩
      have := q8 x hx
      show BtM I1 c x _ h.1[x]
      unfold BtM at this ⊢
      rw [e0 530 (by omega), e0 531 (by omega), e0 532 (by omega), e0 533 (by omega)]
      exact this
    have i24 : I1 524 c = nI (h.2.2 + 1) := by rw [hI1]; exact u2_at rfl rfl
    have i28 : I1 528 c = nI h.1.length := k1.2.2.1
    have i8 : I1 492 8 = nI (eG E) := by rw [hI1, u2_ne (by omega)]; exact g8
    have i9 : I1 492 9 = nI (eC E) := by rw [hI1, u2_ne (by omega)]; exact g9
    by_cases hy : eG E ≤ h.2.2 + 1 ∧ h.1.length < eC E
    · rw [if_pos hy]
      obtain ⟨hy1, hy2⟩ := hy
      obtain ⟨I2, e2, f2, k2⟩ := m_closes (T := T) sh k1 hc (by show h.1.length < 4; omega) ho
      refine ⟨I2, ?_, FrC_tr f1 f2, k2⟩
      conv => lhs; unfold f_m_ticks_17 f_m_ticks_76
      simp (disch := omega) only [↓sh.gI, ↓sh.pI, ↓sh.ck, ↓cI_x, ↓cV_x, ↓nmI_t, ↓reduceIte, rmI_t, dvI_t, nI_add, pk_mul, pk_sub, nI_leI, nI_ltI, nI_eq, n_leT, n_leF, n_ltT, n_ltF, n_eqT, n_eqF, u2_ne, u2_at, u2_nj, ↓i_neg1, m1_ne, m1_en, m1_lt, m1_le, m1_nlt, m1_nle, i_lits, true_and, and_true, ↓sh.g46, ↓sh.g47, ↓sh.g51, sh.a523, sh.a524, sh.a528, sh.s523, sh.s524, sh.s528, h1, h2, ← hI1, i24, i28, i8, i9, e2, g8, g9, h3]
    · rw [if_neg hy]
      refine ⟨I1, ?_, f1, k1⟩
      conv => lhs; unfold f_m_ticks_17 f_m_ticks_76
      by_cases hy1 : h.2.2 + 1 < eG E
      · simp (disch := omega) only [↓sh.gI, ↓sh.pI, ↓sh.ck, ↓cI_x, ↓cV_x, ↓nmI_t, ↓reduceIte, rmI_t, dvI_t, nI_add, pk_mul, pk_sub, nI_leI, nI_ltI, nI_eq, n_leT, n_leF, n_ltT, n_ltF, n_eqT, n_eqF, u2_ne, u2_at, u2_nj, ↓i_neg1, m1_ne, m1_en, m1_lt, m1_le, m1_nlt, m1_nle, i_lits, true_and, and_true, ↓sh.g46, ↓sh.g47, ↓sh.g51, sh.a523, sh.a524, sh.a528, sh.s523, sh.s524, sh.s528, h1, h2, ← hI1, i24, i28, i8, i9, g8, g9, h3]
      · have hy2 : eC E ≤ h.1.length := by omega
        simp (disch := omega) only [↓sh.gI, ↓sh.pI, ↓sh.ck, ↓cI_x, ↓cV_x, ↓nmI_t, ↓reduceIte, rmI_t, dvI_t, nI_add, pk_mul, pk_sub, nI_leI, nI_ltI, nI_eq, n_leT, n_leF, n_ltT, n_ltF, n_eqT, n_eqF, u2_ne, u2_at, u2_nj, ↓i_neg1, m1_ne, m1_en, m1_lt, m1_le, m1_nlt, m1_nle, i_lits, true_and, and_true, ↓sh.g46, ↓sh.g47, ↓sh.g51, sh.a523, sh.a524, sh.a528, sh.s523, sh.s524, sh.s528, h1, h2, ← hI1, i24, i28, i8, i9, g8, g9, h3]
theorem m_growA (sh : shM T) (hE : okE E) (hI : Inv E D) (hB : ∀ c, (dC D c).2.2 < 2 ^ 30) : ∀ (d n m : Nat) (I : Iw), m + d = 54 → d < n → MR E (zsC D (fun c => if c < m then grow (eG E) (eC E) (dC D c) else dC D c)) Q r tk I T → ∃ I', f_m_ticks_17 n 492 (nI m) ((I, T) : Mem) = f_m_ticks_87 FU 492 (nI (eN E + 1)) ((I', T) : Mem) ∧ MR E (growA E D) Q r tk I' T ∧ FM I I'
  | d, 0, m, I, _, hn, _ => by omega
  | 0, n + 1, m, I, hm, hn, hC => by
    have n4 := hE.1
    have e1 := m_sink (T := T) (E := E) sh hC.1.1
    have hm' : m = 54 := by omega
    refine ⟨I, ?_, ?_, FM_rf⟩
    · rw [hm']
      unfold f_m_ticks_17
      simp (disch := omega) only [↓sh.gI, ↓sh.pI, ↓sh.ck, ↓cI_x, ↓cV_x, ↓nmI_t, ↓reduceIte, rmI_t, dvI_t, nI_add, pk_mul, pk_sub, nI_leI, nI_ltI, nI_eq, n_leT, n_leF, n_ltT, n_ltF, n_eqT, n_eqF, u2_ne, u2_at, u2_nj, ↓i_neg1, m1_ne, m1_en, m1_lt, m1_le, m1_nlt, m1_nle, i_lits, true_and, and_true, ↓sh.g46, ↓sh.g47, ↓sh.g51, sh.a523, sh.a524, sh.a528, sh.s523, sh.s524, sh.s528, e1]
    · obtain ⟨h1, h2, h3⟩ := hC
      refine ⟨h1, fun c hc => ?_, h3⟩
      have := h2 c hc
      simp only [gs_C] at this
      rw [if_pos (by omega)] at this
      exact this
  | d + 1, n + 1, m, I, hm, hn, hC => by
    have h44 := ch44 hE hI
    have hch := hC.2.1 m (by omega)
    simp only [gs_C] at hch
    rw [if_neg (by omega)] at hch
    obtain ⟨I1, e1, f1, k1⟩ := m_grow (T := T) sh hE hC.1 hch (by omega) (h44 m (by omega)).1 (h44 m (by omega)).2 (hB m) n
    obtain ⟨C1, F1⟩ := MR_C hC f1 (fun x hx => by
      simp only [gs_C]
      by_cases hz : x < m
      · rw [if_pos hz]
        have hi := ch44 hE (Inv_grow hI) x hx
        exact hi
      · rw [if_neg hz]; exact h44 x hx) k1
    have hnew : zsC (zsC D (fun c => if c < m then grow (eG E) (eC E) (dC D c) else dC D c)) (upw (dC (zsC D (fun c => if c < m then grow (eG E) (eC E) (dC D c) else dC D c))) m (grow (eG E) (eC E) (dC D m))) = zsC D (fun c => if c < m + 1 then grow (eG E) (eC E) (dC D c) else dC D c) := by
      have : upw (dC (zsC D (fun c => if c < m then grow (eG E) (eC E) (dC D c) else dC D c))) m (grow (eG E) (eC E) (dC D m)) = fun c => if c < m + 1 then grow (eG E) (eC E) (dC D c) else dC D c := funext fun x => by
        simp only [gs_C]
        by_cases hz : x = m
        · rw [hz, upw_eq, if_pos (by omega)]
        · rw [upw_ne hz]
          by_cases hy : x < m
          · rw [if_pos hy, if_pos (by omega)]
          · rw [if_neg hy, if_neg (by omega)]
      rw [this]
      rfl
    rw [hnew] at C1
    obtain ⟨I2, e2, C2, F2⟩ := m_growA sh hE hI hB d n (m + 1) I1 (by omega) (by omega) C1
    exact ⟨I2, e1.trans e2, C2, FM_tr F1 F2⟩
theorem ticks93 (hE : okE E) (hA : okA E) (hlo : lo ≤ eT E) (hlo2 : eT E - lo < 40000) (hT : eT E < 2 ^ 30) (ho : o ≤ eN E + 1) (hI : Inv E D) (hW : WK0 E D lo) (hN : ∀ s, dN D s < 2 ^ 29) (K : Nat → Int32 → Mem → Option Mem) : ∀ (d n j : Nat) (I : Iw) (T : Tl), shM T → j + d = eP E o → d < n → MR E (workO E o j D) (fQ E (workO E o j D) Q) (fR E (workO E o j D)) (eT E + 1) I T → ∃ I' T', f_m_ticks_93 K n 492 (nI o) (nI j) ((I, T) : Mem) = K 492 (nI o + (-1)) ((I', T') : Mem) ∧ MR E (workO E o (eP E o) D) (fQ E (workO E o (eP E o) D) Q) (fR E (workO E o (eP E o) D)) (eT E + 1) I' T' ∧ FM I I' ∧ JM T T'
  | d, 0, j, I, T, _, _, hn, _ => by omega
  | 0, n + 1, j, I, T, sh, hj, hn, hC => by
    have n4 := hE.1
    have p3 := hE.p3 ho
    have c4 := (hC.1.op ho).2.2.2
    have hj' : j = eP E o := by omega
    refine ⟨I, T, ?_, by rw [← hj']; exact hC, FM_rf, JM_rf⟩
    unfold f_m_ticks_93
    rw [sh.g6, sh.a497 (by omega), c4, if_pos ((nI_leI (by omega) (by omega)).mpr (by omega))]
  | d + 1, n + 1, j, I, T, sh, hj, hn, hC => by
    have n4 := hE.1
    have p3 := hE.p3 ho
    have c4 := (hC.1.op ho).2.2.2
    obtain ⟨i1, i2⟩ := workO_ind hE ho (fun D' => WK0 E D' lo) (fun i D' hi hI' hP => WK_works hE ⟨ho, hi⟩ hlo hlo2 _ hI' hP) j D (by omega) hI hW
    have hn2 := workO_N hE ho (spt o j) j D (by omega) hI
    have hN2 := hN (spt o j)
    obtain ⟨I1, T1, e1, C1, F1, J1⟩ := m_works (T := T) (i := j) sh hE hA hlo hlo2 hT ⟨ho, by omega⟩ i1 i2 hC (by omega)
    obtain ⟨I2, T2, e2, C2, F2, J2⟩ := ticks93 hE hA hlo hlo2 hT ho hI hW hN K d n (j + 1) I1 T1 (J1.sh sh) (by omega) (by omega) C1
    refine ⟨I2, T2, ?_, C2, FM_tr F1 F2, JM_tr J1 J2⟩
    rw [← e2]
    conv => lhs; unfold f_m_ticks_93
    rw [sh.g6, sh.a497 (by omega), c4, if_neg (fun w => by have := (nI_leI (by omega) (by omega)).mp w; omega), sh.ck, e1, cV_x, show (1 : Int32) = nI 1 from rfl, nI_add]
theorem ticks87 (hE : okE E) (hA : okA E) (hlo : lo ≤ eT E) (hlo2 : eT E - lo < 40000) (hT : eT E < 2 ^ 30) : ∀ (m n : Nat) (D : Dy) (I : Iw) (T : Tl), shM T → m ≤ eN E + 2 → m < n → Inv E D → WK0 E D lo → (∀ s, dN D s + 54 * m < 2 ^ 29) → MR E D (fQ E D Q) (fR E D) (eT E + 1) I T → ∃ I' T', f_m_ticks_87 n 492 (nI m + (-1)) ((I, T) : Mem) = some ((I', T') : Mem) ∧ MR E (workA E m D) (fQ E (workA E m D) Q) (fR E (workA E m D)) (eT E + 1) I' T' ∧ FM I I' ∧ JM T T'
  | m, 0, D, I, T, _, _, hn, _, _, _, _ => by omega
  | 0, n + 1, D, I, T, sh, hm, hn, hI, hW, hN, hC => by
    refine ⟨I, T, ?_, hC, FM_rf, JM_rf⟩
    unfold f_m_ticks_87
    rw [if_pos (by decide)]
  | m + 1, n + 1, D, I, T, sh, hm, hn, hI, hW, hN, hC => by
    have n4 := hE.1
    have ho : m ≤ eN E + 1 := by omega
    have p3 := hE.p3 ho
    have hC0 : MR E (workO E m 0 D) (fQ E (workO E m 0 D) Q) (fR E (workO E m 0 D)) (eT E + 1) I T := hC
    obtain ⟨I1, T1, e1, C1, F1, J1⟩ := ticks93 hE hA hlo hlo2 hT ho hI hW (fun s => by have := hN s; omega) (f_m_ticks_87 n) (eP E m) FU 0 I T sh (by omega) (by unfold FU; omega) hC0
    obtain ⟨i1, i2⟩ := workO_ind hE ho (fun D' => WK0 E D' lo) (fun i D' hi hI' hP => WK_works hE ⟨ho, hi⟩ hlo hlo2 _ hI' hP) (eP E m) D (Nat.le_refl _) hI hW
    obtain ⟨I2, T2, e2, C2, F2, J2⟩ := ticks87 hE hA hlo hlo2 hT m n (workO E m (eP E m) D) I1 T1 (J1.sh sh) (by omega) (by omega) i1 i2 (fun s => by
      have h1 := hN s
      have h2 := workO_N hE ho s (eP E m) D (Nat.le_refl _) hI
      omega) C1
    refine ⟨I2, T2, ?_, C2, FM_tr F1 F2, JM_tr J1 J2⟩
    have : nI (m + 1) + (-1 : Int32) = nI m := pk_m1 m
    rw [this, ← e2, ← e1]
    conv => lhs; unfold f_m_ticks_87
    rw [if_neg (show ¬ nI m < (0 : Int32) from nI_pos (by omega))]
    rfl
end
