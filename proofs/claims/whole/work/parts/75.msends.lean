/-! THE REFERENCE: sends -/
-- not by rfl alone: else simp leaves the step to the kernel, which unfolds the calls instead
theorem cI_x {α : Type} {k : Int32 → Mem → Option α} {v : Int32} {M : Mem} : cI (some (v, M)) k = k v M := by cases (none : Option Nat) <;> rfl
theorem cV_x {α : Type} {k : Mem → Option α} {M : Mem} : cV (some M) k = k M := by cases (none : Option Nat) <;> rfl
theorem cR_x {α : Type} {k : Option Nat → Mem → Option α} {v : Option Nat} {M : Mem} : cR (some (v, M)) k = k v M := by cases (none : Option Nat) <;> rfl
section
variable {T : Tl} {I I' : Iw} {E : Env} {D : Dy} {Q : Slow} {o i j s c r tk : Nat}
theorem mbar_loop (sh : shM T) (hE : okE E) (ho : o ≤ eN E) (hi : i < eP E o) (hI : Inv E D) (ht : ∀ j, j < eP E (o + 1) → tkB (eC E) (dC D (lin o i j)) = true) : ∀ (d n j : Nat) (I : Iw), j + d = eP E (o + 1) → d < n → MR E (zsC D (barJ D o i j)) Q r tk I T → ∃ I', f_m_sends_229 n 492 (nI o) (nI i) (nI (spt o i)) (nI j) ((I, T) : Mem) = some (nI 1, ((I', T) : Mem)) ∧ MR E (mvBar E D o i) Q r tk I' T ∧ FM I I'
  | d, 0, j, I, _, hn, _ => by omega
  | 0, n + 1, j, I, hj, hn, hC => by
    have n4 := hE.1
    have hs : vS E o i := ⟨by omega, hi⟩
    have s18 := spt18 hE hs
    have p3 := hE.p3 (o := o + 1) (by omega)
    obtain ⟨C1, F1⟩ := MR_H (m := false) (s := spt o i) hC
    obtain ⟨-, -, -, c4⟩ := hC.1.op (o := o + 1) (by omega)
    refine ⟨u2 I 522 (spt o i) (nI (b01 false)), ?_, ?_, F1⟩
    · unfold f_m_sends_229
      simp (disch := omega) only [↓sh.gI, ↓sh.pI, ↓sh.ck, ↓cI_x, ↓cV_x, ↓nmI_t, ↓reduceIte, rmI_t, dvI_t, nI_add, pk_mul, pk_sub, nI_leI, nI_ltI, nI_eq, n_leT, n_leF, n_ltT, n_ltF, n_eqT, n_eqF, u2_ne, u2_at, u2_nj, ↓i_neg1, m1_ne, m1_en, m1_lt, m1_le, m1_nlt, m1_nle, i_lits, true_and, and_true, ↓sh.g6, ↓sh.g45, sh.a497, sh.a522, sh.s497, sh.s522, c4, b01, Bool.false_eq_true]
    · have hb : barJ D o i j = barC E D o i := by
        unfold barJ barC
        rw [show j = eP E (o + 1) by omega]
      rw [hb] at C1
      exact C1
  | d + 1, n + 1, j, I, hj, hn, hC => by
    have n4 := hE.1
    have hs : vS E o i := ⟨by omega, hi⟩
    have s18 := spt18 hE hs
    have p3 := hE.p3 (o := o + 1) (by omega)
    have v : vC E o i j := ⟨ho, hi, by omega⟩
    have hl45 := lin45 hE v
    obtain ⟨-, -, -, c4⟩ := hC.1.op (o := o + 1) (by omega)
    have hch := hC.2.1 (lin o i j) (by omega)
    have hsame : barJ D o i j (lin o i j) = dC D (lin o i j) := by
      unfold barJ
      exact if_neg (by omega)
    simp only [gs_C] at hch
    rw [hsame] at hch
    have s4 := hE.2.2.2.2.2.2.2.1.2
    have k4 := hE.2.2.2.2.2.2.2.2.2.1.2
    obtain ⟨I1, e3, f1, r1⟩ := m_putsBarrier (T := T) sh hch (by omega) s4 k4 (hI.1 _ _ _ v).1 (ht j (by omega))
    have h44 : ∀ x, x < 54 → (dC (zsC D (barJ D o i j)) x).1.length ≤ 4 ∧ (dC (zsC D (barJ D o i j)) x).2.1.length ≤ 4 := fun x hx => by
      simp only [gs_C]
      unfold barJ
      by_cases hz : lin o i 0 ≤ x ∧ x < lin o i j
      · rw [if_pos hz]
        obtain ⟨j', hj'⟩ : ∃ j', x = lin o i j' := ⟨x - lin o i 0, by unfold lin at *; omega⟩
        have hjj : j' < j := by rw [hj'] at hz; unfold lin at hz; omega
        have v' : vC E o i j' := ⟨ho, hi, by omega⟩
        rw [hj']
        have hp := (putB_ok (hI.1 _ _ _ v').1 (ht j' (by omega))).1
        exact ⟨by have := hp.1; omega, by have := hp.2.1; omega⟩
      · rw [if_neg hz]
        exact ch44 hE hI x hx
    obtain ⟨C1, F1⟩ := MR_C hC f1 h44 r1
    have hnew : zsC (zsC D (barJ D o i j)) (upw (dC (zsC D (barJ D o i j))) (lin o i j) (putB (dC D (lin o i j)))) = zsC D (barJ D o i (j + 1)) := by
      have : upw (dC (zsC D (barJ D o i j))) (lin o i j) (putB (dC D (lin o i j))) = barJ D o i (j + 1) := funext fun x => by
        simp only [gs_C]
        by_cases hz : x = lin o i j
        · rw [hz, upw_eq]
          unfold barJ
          rw [if_pos (by unfold lin; omega)]
        · rw [upw_ne hz]
          unfold barJ
          by_cases hy : lin o i 0 ≤ x ∧ x < lin o i j
          · rw [if_pos hy, if_pos (by unfold lin at *; omega)]
          · rw [if_neg hy, if_neg (by unfold lin at *; omega)]
      rw [this]
      rfl
    rw [hnew] at C1
    obtain ⟨I2, e4, C2, F2⟩ := mbar_loop sh hE ho hi hI ht d n (j + 1) I1 (by omega) (by omega) C1
    have e2 := fun M => m_line o i j M
    refine ⟨I2, ?_, C2, FM_tr F1 F2⟩
    unfold f_m_sends_229
    simp (disch := omega) only [↓sh.gI, ↓sh.pI, ↓sh.ck, ↓cI_x, ↓cV_x, ↓nmI_t, ↓reduceIte, rmI_t, dvI_t, nI_add, pk_mul, pk_sub, nI_leI, nI_ltI, nI_eq, n_leT, n_leF, n_ltT, n_ltF, n_eqT, n_eqF, u2_ne, u2_at, u2_nj, ↓i_neg1, m1_ne, m1_en, m1_lt, m1_le, m1_nlt, m1_nle, i_lits, true_and, and_true, ↓sh.g6, ↓sh.g45, sh.a497, sh.a522, sh.s497, sh.s522, c4, e2, e3, e4]
theorem m_sendB (sh : shM T) (hE : okE E) (hs : vS E o i) (hI : Inv E D) (hC : MR E D Q r tk I T) (hl : dL D (spt o i) = []) (n : Nat) : ∃ I', f_m_sends_6 (n + 1) 492 (nI o) (nI i) (nI (spt o i)) ((I, T) : Mem) = some (nI (b01 (sendB E D o i).1), ((I', T) : Mem)) ∧ MR E (sendB E D o i).2 Q r tk I' T ∧ FM I I' := by
  have n4 := hE.1
  have s18 := spt18 hE hs
  obtain ⟨⟨i1, -⟩, -, -, i4, -⟩ := hC.2.2.1 (spt o i) s18
  rw [hl, List.length_nil] at i1
  unfold f_m_sends_6 sendB
  cases hH : dH D (spt o i) with
  | false =>
    rw [hH] at i4
    refine ⟨I, ?_, hC, FM_rf⟩
    simp (disch := omega) only [↓sh.gI, ↓sh.pI, ↓sh.ck, ↓cI_x, ↓cV_x, ↓nmI_t, ↓reduceIte, rmI_t, dvI_t, nI_add, pk_mul, pk_sub, nI_leI, nI_ltI, nI_eq, n_leT, n_leF, n_ltT, n_ltF, n_eqT, n_eqF, u2_ne, u2_at, u2_nj, ↓i_neg1, m1_ne, m1_en, m1_lt, m1_le, m1_nlt, m1_nle, i_lits, true_and, and_true, ↓sh.g33, ↓sh.g39, ↓sh.g40, ↓sh.g41, ↓sh.g42, ↓sh.g45, sh.a513, sh.a516, sh.a517, sh.a518, sh.a519, sh.a522, sh.s513, sh.s516, sh.s517, sh.s518, sh.s519, sh.s522, i1, i4, b01, Bool.false_eq_true]
  | true =>
    rw [hH] at i4
    have ho := src_of_hold hE hI hs hH
    have e1 := m_refus (T := T) sh hE hC.1 hC.2.1 hI.1 ho hs.2
    cases hr : refus E D o i with
    | some j =>
      rw [hr] at e1
      have hj := (refus_some hr).1
      have p3 := hE.p3 (o := o + 1) (by omega)
      have e1' : f_m_refusing 492 (nI o) (nI i) ((I, T) : Mem) = some (nI j, ((I, T) : Mem)) := e1
      refine ⟨I, ?_, hC, FM_rf⟩
      simp (disch := omega) only [↓sh.gI, ↓sh.pI, ↓sh.ck, ↓cI_x, ↓cV_x, ↓nmI_t, ↓reduceIte, rmI_t, dvI_t, nI_add, pk_mul, pk_sub, nI_leI, nI_ltI, nI_eq, n_leT, n_leF, n_ltT, n_ltF, n_eqT, n_eqF, u2_ne, u2_at, u2_nj, ↓i_neg1, m1_ne, m1_en, m1_lt, m1_le, m1_nlt, m1_nle, i_lits, true_and, and_true, ↓sh.g33, ↓sh.g39, ↓sh.g40, ↓sh.g41, ↓sh.g42, ↓sh.g45, sh.a513, sh.a516, sh.a517, sh.a518, sh.a519, sh.a522, sh.s513, sh.s516, sh.s517, sh.s518, sh.s519, sh.s522, i1, i4, b01, e1', Bool.false_eq_true]
    | none =>
      rw [hr] at e1
      have e1' : f_m_refusing 492 (nI o) (nI i) ((I, T) : Mem) = some (m1, ((I, T) : Mem)) := e1
      have p3 := hE.p3 (o := o + 1) (by omega)
      have h0 : zsC D (barJ D o i 0) = D := by
        have : barJ D o i 0 = dC D := funext fun x => by
          unfold barJ
          exact if_neg (by omega)
        rw [this]
        rfl
      obtain ⟨I1, e2, C1, F1⟩ := mbar_loop (Q := Q) (r := r) (tk := tk) sh hE ho hs.2 hI (refus_none hr) (eP E (o + 1)) FU 0 I (by omega) (by unfold FU; omega) (by rw [h0]; exact hC)
      refine ⟨I1, ?_, C1, F1⟩
      simp (disch := omega) only [↓sh.gI, ↓sh.pI, ↓sh.ck, ↓cI_x, ↓cV_x, ↓nmI_t, ↓reduceIte, rmI_t, dvI_t, nI_add, pk_mul, pk_sub, nI_leI, nI_ltI, nI_eq, n_leT, n_leF, n_ltT, n_ltF, n_eqT, n_eqF, u2_ne, u2_at, u2_nj, ↓i_neg1, m1_ne, m1_en, m1_lt, m1_le, m1_nlt, m1_nle, i_lits, true_and, and_true, ↓sh.g33, ↓sh.g39, ↓sh.g40, ↓sh.g41, ↓sh.g42, ↓sh.g45, sh.a513, sh.a516, sh.a517, sh.a518, sh.a519, sh.a522, sh.s513, sh.s516, sh.s517, sh.s518, sh.s519, sh.s522, i1, i4, b01, e1', e2]
theorem m_put1 (sh : shM T) (hE : okE E) (hs : vS E o i) {x : Rec} {l : List Rec} (n : Nat) (hl : dL D (spt o i) = x :: l) (hI : Inv E D) (hC : MR E D Q r tk I T) (hN : dN D (spt o i) < 2 ^ 31) (ht : tkR (eS E) (eC E) (dC D (lin o i (goal E D o i x.1))) = true) : ∃ I', f_m_sends_6 (n + 1) 492 (nI o) (nI i) (nI (spt o i)) ((I, T) : Mem) = f_m_sends_6 n 492 (nI o) (nI i) (nI (spt o i)) ((I', T) : Mem) ∧ MR E (mvPut E D o i x l) Q r tk I' T ∧ FM I I' := by
  have n4 := hE.1
  have ho := src_of_list hE hI hs (by rw [hl]; simp)
  have hi := hs.2
  have s18 := spt18 hE hs
  have hl3 := li3 hE hI (spt o i) s18
  rw [hl, List.length_cons] at hl3
  have hIn := hC.2.2.1 (spt o i) s18
  have iL := hIn.1
  rw [hl] at iL
  have i1 := iL.1
  rw [List.length_cons] at i1
  obtain ⟨a1, a2, a3⟩ := iL.2 0 (by simp)
  simp only [List.getElem_cons_zero, Nat.add_zero] at a1 a2 a3
  have e1 := m_goal (T := T) sh hE hC.1 hIn.2.2.2.2 (by omega) hs ho x.1
  have hg := goal_lt (D := D) (i := i) hE ho (k := x.1)
  have v : vC E o i (goal E D o i x.1) := ⟨ho, hi, hg⟩
  have hl45 := lin45 hE v
  have e2 := fun M => m_line o i (goal E D o i x.1) M
  have s4 := hE.2.2.2.2.2.2.2.1
  have c4 := hE.2.2.2.2.2.2.2.2.2.1.2
  have hok := (hI.1 _ _ _ v).1
  obtain ⟨c, hc⟩ : ∃ c, c = lin o i (goal E D o i x.1) := ⟨_, rfl⟩
  rw [← hc] at e2 hl45 hok ht
  have e4 := m_takesRecord (T := T) sh hC.1.2.1 hC.1.2.2.2.1 (hC.2.1 c (by omega)) (by omega) s4.2 c4 hok
  rw [ht] at e4
  obtain ⟨I1, e5, f1, r1⟩ := m_puts (T := T) sh hC.1.2.1 hC.1.2.2.2.1 (hC.2.1 c (by omega)) (by omega) s4 c4 hok ht x
  obtain ⟨C1, F1⟩ := MR_C hC f1 (ch44 hE hI) r1
  have hcI : CoM I1 E := C1.1
  have e6 := m_isKeyed (T := T) sh (by omega) (hcI.op (o := o + 1) (by omega)).1 (kind_le hE (by omega))
  have hI1n := C1.2.2.1 (spt o i) s18
  simp only [gs_C] at hI1n
  have j5 := hI1n.2.2.2.2
  have jL := hI1n.1
  rw [hl] at jL
  have j1 := jL.1
  rw [List.length_cons] at j1
  obtain ⟨w, hw⟩ : ∃ w, w = (if kyd (eK E (o + 1)) then 0 else 1) := ⟨_, rfl⟩
  have hw1 : w ≤ 1 := by rw [hw]; split <;> omega
  obtain ⟨C2, F2⟩ := MR_N (s := spt o i) (m := dN D (spt o i) + w) C1
  obtain ⟨I2, hI2⟩ : ∃ I2, I2 = u2 (u2 I1 513 (spt o i) (nI (dN D (spt o i) + w))) 516 (spt o i) (nI l.length) := ⟨_, rfl⟩
  have g5 : ∀ a, a ≠ 513 → a ≠ 516 → I2 a = I1 a := fun a h1 h2 => by rw [hI2, u2_ne h2, u2_ne h1]
  have e7 := sends_sh (I := I2) (T := T) (s := spt o i) sh s18 l.length (by omega) (by rw [hI2]; exact u2_at rfl rfl) (f_m_sends_6 n) (nI o) (nI i) l.length FU 0 (by omega) (by unfold FU; omega)
  rw [shL_0] at e7
  obtain ⟨C3, F3⟩ := MR_L (I' := shL I2 (spt o i) l.length) (s := spt o i) (l := l) C2 (fun a ha => by rw [shL_ne (by omega), hI2, u2_ne (by omega)]) (fun x hx => by rw [shL_ne (by omega), hI2, u2_nj rfl hx]) (fun x hx => by
    rw [shL_n (by omega), shL_n (by omega), shL_n (by omega), hI2, u2_ne (by omega), u2_ne (by omega), u2_ne (by omega)]
    exact ⟨rfl, rfl, rfl⟩) (fun x hx => by simp only [gs_N, gs_C]; exact li3 hE hI x hx) ⟨by rw [shL_ne (by omega), hI2]; exact u2_at rfl rfl, fun j hj => by
    rw [shL_r (by omega) (by omega) (by omega), shL_r (by omega) (by omega) (by omega), shL_r (by omega) (by omega) (by omega), g5 517 (by omega) (by omega), g5 518 (by omega) (by omega), g5 519 (by omega) (by omega)]
    have := jL.2 (j + 1) (by simp only [List.length_cons]; omega)
    simp only [List.getElem_cons_succ] at this
    exact this⟩
  have hmv : zsL (zsN (zsC D (upw (dC D) c (putR (eS E) (eC E) (dC D c) x))) (upw (dN (zsC D (upw (dC D) c (putR (eS E) (eC E) (dC D c) x)))) (spt o i) (dN D (spt o i) + w))) (upw (dL (zsN (zsC D (upw (dC D) c (putR (eS E) (eC E) (dC D c) x))) (upw (dN (zsC D (upw (dC D) c (putR (eS E) (eC E) (dC D c) x)))) (spt o i) (dN D (spt o i) + w)))) (spt o i) l) = mvPut E D o i x l := by
    refine Dy_ext ?_ ?_ ?_ ?_ ?_ ?_ ?_ ?_ ?_ ?_ ?_ ?_ ?_ ?_ ?_ ?_ ?_ ?_ ?_ <;> simp only [put_f, gs_L, gs_N, gs_C, hc, hw]
  rw [hmv] at C3
  refine ⟨_, ?_, C3, FM_tr F1 (FM_tr F2 F3)⟩
  have e9 : f_m_sends_97 (f_m_sends_6 n) 492 (nI o) (nI i) (nI (spt o i)) (nI w) (nI (dN D (spt o i))) (nI (spt o i)) 513 ((I1, T) : Mem) = f_m_sends_6 n 492 (nI o) (nI i) (nI (spt o i)) ((shL I2 (spt o i) l.length, T) : Mem) := by
    unfold f_m_sends_97
    simp (disch := omega) only [↓sh.gI, ↓sh.pI, ↓sh.ck, ↓cI_x, ↓cV_x, ↓nmI_t, ↓reduceIte, rmI_t, dvI_t, nI_add, pk_mul, pk_sub, nI_leI, nI_ltI, nI_eq, n_leT, n_leF, n_ltT, n_ltF, n_eqT, n_eqF, u2_ne, u2_at, u2_nj, ↓i_neg1, m1_ne, m1_en, m1_lt, m1_le, m1_nlt, m1_nle, i_lits, true_and, and_true, ↓sh.g39, sh.a516, sh.s516, sh.s513, j1, ← hI2, Nat.add_sub_cancel, e7]
  conv => lhs; unfold f_m_sends_6
  cases hky : kyd (eK E (o + 1)) with
  | true =>
    rw [hky] at e6 hw
    simp only [↓reduceIte] at hw
    rw [hw] at e9
    simp (disch := omega) only [↓sh.gI, ↓sh.pI, ↓sh.ck, ↓cI_x, ↓cV_x, ↓nmI_t, ↓reduceIte, rmI_t, dvI_t, nI_add, pk_mul, pk_sub, nI_leI, nI_ltI, nI_eq, n_leT, n_leF, n_ltT, n_ltF, n_eqT, n_eqF, u2_ne, u2_at, u2_nj, ↓i_neg1, m1_ne, m1_en, m1_lt, m1_le, m1_nlt, m1_nle, i_lits, true_and, and_true, ↓sh.g33, ↓sh.g39, ↓sh.g40, ↓sh.g41, ↓sh.g42, ↓sh.g45, sh.a513, sh.a516, sh.a517, sh.a518, sh.a519, sh.a522, sh.s513, sh.s516, sh.s517, sh.s518, sh.s519, sh.s522, i1, a1, e1, a2, a3, e2, e4, b01, e5, j5, e6, e9]
  | false =>
    rw [hky] at e6 hw
    simp only [Bool.false_eq_true, ↓reduceIte] at hw
    rw [hw] at e9
    simp (disch := omega) only [↓sh.gI, ↓sh.pI, ↓sh.ck, ↓cI_x, ↓cV_x, ↓nmI_t, ↓reduceIte, rmI_t, dvI_t, nI_add, pk_mul, pk_sub, nI_leI, nI_ltI, nI_eq, n_leT, n_leF, n_ltT, n_ltF, n_eqT, n_eqF, u2_ne, u2_at, u2_nj, ↓i_neg1, m1_ne, m1_en, m1_lt, m1_le, m1_nlt, m1_nle, i_lits, true_and, and_true, ↓sh.g33, ↓sh.g39, ↓sh.g40, ↓sh.g41, ↓sh.g42, ↓sh.g45, sh.a513, sh.a516, sh.a517, sh.a518, sh.a519, sh.a522, sh.s513, sh.s516, sh.s517, sh.s518, sh.s519, sh.s522, i1, a1, e1, a2, a3, e2, e4, b01, e5, j5, e6, e9, Bool.false_eq_true]
theorem m_put0 (sh : shM T) (hE : okE E) (hs : vS E o i) {x : Rec} {l : List Rec} (n : Nat) (hl : dL D (spt o i) = x :: l) (hI : Inv E D) (hC : MR E D Q r tk I T) (hN : dN D (spt o i) < 2 ^ 31) (ht : tkR (eS E) (eC E) (dC D (lin o i (goal E D o i x.1))) = false) : f_m_sends_6 (n + 1) 492 (nI o) (nI i) (nI (spt o i)) ((I, T) : Mem) = some (nI 0, ((I, T) : Mem)) := by
  have n4 := hE.1
  have ho := src_of_list hE hI hs (by rw [hl]; simp)
  have s18 := spt18 hE hs
  have hl3 := li3 hE hI (spt o i) s18
  rw [hl, List.length_cons] at hl3
  have hIn := hC.2.2.1 (spt o i) s18
  have iL := hIn.1
  rw [hl] at iL
  have i1 := iL.1
  rw [List.length_cons] at i1
  obtain ⟨a1, a2, a3⟩ := iL.2 0 (by simp)
  simp only [List.getElem_cons_zero, Nat.add_zero] at a1 a2 a3
  have e1 := m_goal (T := T) sh hE hC.1 hIn.2.2.2.2 (by omega) hs ho x.1
  have hg := goal_lt (D := D) (i := i) hE ho (k := x.1)
  have v : vC E o i (goal E D o i x.1) := ⟨ho, hs.2, hg⟩
  have hl45 := lin45 hE v
  have e2 := fun M => m_line o i (goal E D o i x.1) M
  have s4 := hE.2.2.2.2.2.2.2.1
  have c4 := hE.2.2.2.2.2.2.2.2.2.1.2
  have hok := (hI.1 _ _ _ v).1
  obtain ⟨c, hc⟩ : ∃ c, c = lin o i (goal E D o i x.1) := ⟨_, rfl⟩
  rw [← hc] at e2 hl45 hok ht
  have e4 := m_takesRecord (T := T) sh hC.1.2.1 hC.1.2.2.2.1 (hC.2.1 c (by omega)) (by omega) s4.2 c4 hok
  rw [ht] at e4
  unfold f_m_sends_6
  simp (disch := omega) only [↓sh.gI, ↓sh.pI, ↓sh.ck, ↓cI_x, ↓cV_x, ↓nmI_t, ↓reduceIte, rmI_t, dvI_t, nI_add, pk_mul, pk_sub, nI_leI, nI_ltI, nI_eq, n_leT, n_leF, n_ltT, n_ltF, n_eqT, n_eqF, u2_ne, u2_at, u2_nj, ↓i_neg1, m1_ne, m1_en, m1_lt, m1_le, m1_nlt, m1_nle, i_lits, true_and, and_true, ↓sh.g33, ↓sh.g39, ↓sh.g40, ↓sh.g41, ↓sh.g42, ↓sh.g45, sh.a513, sh.a516, sh.a517, sh.a518, sh.a519, sh.a522, sh.s513, sh.s516, sh.s517, sh.s518, sh.s519, sh.s522, i1, a1, e1, e2, e4, b01, Bool.false_eq_true]
theorem m_sends6 (sh : shM T) (hE : okE E) (hs : vS E o i) : ∀ (l : List Rec) (n : Nat) (D : Dy) (I : Iw), dL D (spt o i) = l → Inv E D → MR E D Q r tk I T → l.length < n → dN D (spt o i) + l.length < 2 ^ 31 → ∃ I', f_m_sends_6 n 492 (nI o) (nI i) (nI (spt o i)) ((I, T) : Mem) = some (nI (b01 (if (sendL E o i l D).1 then sendB E (sendL E o i l D).2 o i else sendL E o i l D).1), ((I', T) : Mem)) ∧ MR E (if (sendL E o i l D).1 then sendB E (sendL E o i l D).2 o i else sendL E o i l D).2 Q r tk I' T ∧ FM I I'
  | l, 0, D, I, _, _, _, hn, _ => by omega
  | [], n + 1, D, I, hl, hI, hC, hn, hN => by
    simp only [sendL, ↓reduceIte]
    exact m_sendB sh hE hs hI hC hl n
  | x :: l, n + 1, D, I, hl, hI, hC, hn, hN => by
    have ho := src_of_list hE hI hs (by rw [hl]; simp)
    simp only [List.length_cons] at hn hN
    unfold sendL
    cases ht : tkR (eS E) (eC E) (dC D (lin o i (goal E D o i x.1))) with
    | false =>
      have e := m_put0 sh hE hs n hl hI hC (by omega) ht
      simp only [Bool.false_eq_true, ↓reduceIte]
      exact ⟨I, e, hC, FM_rf⟩
    | true =>
      obtain ⟨I1, e1, C1, F1⟩ := m_put1 sh hE hs n hl hI hC (by omega) ht
      have hD1 : dL (mvPut E D o i x l) (spt o i) = l := by simp only [put_f]; exact upw_eq
      have hI1 := Inv_put hE hI ho hs.2 hl ht
      have hN2 : dN (mvPut E D o i x l) (spt o i) + l.length < 2 ^ 31 := by
        simp only [put_f]
        rw [upw_eq]
        have : (if kyd (eK E (o + 1)) = true then 0 else 1) ≤ 1 := by split <;> omega
        omega
      obtain ⟨I4, e8, C4, F4⟩ := m_sends6 sh hE hs l n (mvPut E D o i x l) I1 hD1 hI1 C1 (by omega) hN2
      simp only [↓reduceIte]
      exact ⟨I4, e1.trans e8, C4, FM_tr F1 F4⟩
theorem m_sends (sh : shM T) (hE : okE E) (hs : vS E o i) (hI : Inv E D) (hC : MR E D Q r tk I T) (hN : dN D (spt o i) + 3 < 2 ^ 31) : ∃ I', f_m_sends 492 (nI o) (nI i) ((I, T) : Mem) = some (nI (b01 (sends E D o i).1), ((I', T) : Mem)) ∧ MR E (sends E D o i).2 Q r tk I' T ∧ FM I I' := by
  have s18 := spt18 hE hs
  have hl3 := li3 hE hI (spt o i) s18
  obtain ⟨I', e, c, f⟩ := m_sends6 (Q := Q) (r := r) (tk := tk) (T := T) sh hE hs (dL D (spt o i)) FU D I rfl hI hC (by unfold FU; omega) (by omega)
  refine ⟨I', ?_, c, f⟩
  have e2 := fun M => m_spot o i M
  unfold f_m_sends
  simp (disch := omega) only [↓sh.gI, ↓sh.pI, ↓sh.ck, ↓cI_x, ↓cV_x, ↓nmI_t, ↓reduceIte, rmI_t, dvI_t, nI_add, pk_mul, pk_sub, nI_leI, nI_ltI, nI_eq, n_leT, n_leF, n_ltT, n_ltF, n_eqT, n_eqF, u2_ne, u2_at, u2_nj, ↓i_neg1, m1_ne, m1_en, m1_lt, m1_le, m1_nlt, m1_nle, i_lits, true_and, and_true, e2, e]
  rfl
end
