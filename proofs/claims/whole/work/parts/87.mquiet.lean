/-! CALLS: quiet, of the reference; isQuiet -/
section
variable {T T' : Tl} {I I' : Iw} {E : Env} {D : Dy} {Q : Slow} {S : Sy} {g : Nat → Kst} {o i j s c r tk k : Nat}
theorem ch_lens (hE : okE E) (hI : Inv E D) (x : Nat) : (dC D x).1.length ≤ 4 ∧ (dC D x).2.1.length ≤ 4 := by
  have h := chOK_all hE hI x
  have s4 := hE.2.2.2.2.2.2.2.1.2
  have c4 := hE.2.2.2.2.2.2.2.2.2.1.2
  exact ⟨by have := h.1; omega, by have := h.2.1; omega⟩
theorem mq_loop47 (sh : shM T) (hE : okE E) (hI : Inv E D) (hC : ChsM I D) : ∀ (d n c : Nat), c + d = 54 → d < n → f_m_quiet_47 n 492 (nI c) ((I, T) : Mem) = some (nI (b01 (allB (fun c => emp (dC D c)) c d)), ((I, T) : Mem))
  | d, 0, c, _, hn => by omega
  | 0, n + 1, c, hc, hn => by
    have : c = 54 := by omega
    subst this
    unfold f_m_quiet_47 allB
    simp (disch := omega) only [↓sh.gI, ↓sh.pI, ↓sh.ck, ↓cI_x, ↓cV_x, ↓nmI_t, ↓reduceIte, rmI_t, dvI_t, nI_add, pk_mul, pk_sub, nI_leI, nI_ltI, nI_eq, n_leT, n_leF, n_ltT, n_ltF, n_eqT, n_eqF, u2_ne, u2_at, u2_nj, ↓i_neg1, m1_ne, m1_en, m1_lt, m1_le, m1_nlt, m1_nle, i_lits, true_and, and_true, ↓sh.g46, ↓sh.g51, sh.a523, sh.a528, sh.s523, sh.s528, b01]
  | d + 1, n + 1, c, hc, hn => by
    have ih := mq_loop47 sh hE hI hC d n (c + 1) (by omega) (by omega)
    have hh := hC c (by omega)
    have h1 := hh.1
    have h3 := hh.2.2.1
    obtain ⟨l1, l2⟩ := ch_lens hE hI c
    unfold f_m_quiet_47 allB
    show _ = some (nI (b01 (decide ((dC D c).1 = [] ∧ (dC D c).2.1 = []) && allB (fun c => emp (dC D c)) (c + 1) d)), ((I, T) : Mem))
    by_cases hz : (dC D c).2.1 = []
    · rw [hz, List.length_nil] at h1
      by_cases hy : (dC D c).1 = []
      · rw [hy, List.length_nil] at h3
        rw [decide_eq_true ⟨hy, hz⟩]
        simp (disch := omega) only [↓sh.gI, ↓sh.pI, ↓sh.ck, ↓cI_x, ↓cV_x, ↓nmI_t, ↓reduceIte, rmI_t, dvI_t, nI_add, pk_mul, pk_sub, nI_leI, nI_ltI, nI_eq, n_leT, n_leF, n_ltT, n_ltF, n_eqT, n_eqF, u2_ne, u2_at, u2_nj, ↓i_neg1, m1_ne, m1_en, m1_lt, m1_le, m1_nlt, m1_nle, i_lits, true_and, and_true, ↓sh.g46, ↓sh.g51, sh.a523, sh.a528, sh.s523, sh.s528, h1, h3, ih, Bool.true_and]
      · have hl : 0 < (dC D c).1.length := List.length_pos_iff.mpr hy
        rw [decide_eq_false (fun w => hy w.1)]
        simp (disch := omega) only [↓sh.gI, ↓sh.pI, ↓sh.ck, ↓cI_x, ↓cV_x, ↓nmI_t, ↓reduceIte, rmI_t, dvI_t, nI_add, pk_mul, pk_sub, nI_leI, nI_ltI, nI_eq, n_leT, n_leF, n_ltT, n_ltF, n_eqT, n_eqF, u2_ne, u2_at, u2_nj, ↓i_neg1, m1_ne, m1_en, m1_lt, m1_le, m1_nlt, m1_nle, i_lits, true_and, and_true, ↓sh.g46, ↓sh.g51, sh.a523, sh.a528, sh.s523, sh.s528, h1, h3, Bool.false_and, b01, Bool.false_eq_true]
    · have hl : 0 < (dC D c).2.1.length := List.length_pos_iff.mpr hz
      rw [decide_eq_false (fun w => hz w.2)]
      simp (disch := omega) only [↓sh.gI, ↓sh.pI, ↓sh.ck, ↓cI_x, ↓cV_x, ↓nmI_t, ↓reduceIte, rmI_t, dvI_t, nI_add, pk_mul, pk_sub, nI_leI, nI_ltI, nI_eq, n_leT, n_leF, n_ltT, n_ltF, n_eqT, n_eqF, u2_ne, u2_at, u2_nj, ↓i_neg1, m1_ne, m1_en, m1_lt, m1_le, m1_nlt, m1_nle, i_lits, true_and, and_true, ↓sh.g46, ↓sh.g51, sh.a523, sh.a528, sh.s523, sh.s528, h1, Bool.false_and, b01, Bool.false_eq_true]
theorem mq_loop22 (sh : shM T) (hE : okE E) (hI : Inv E D) (hC : ChsM I D) (hN : InsM I D) : ∀ (d n s : Nat), s + d = 18 → d < n → f_m_quiet_22 n 492 (nI s) ((I, T) : Mem) = some (nI (b01 (allB (fun s => decide (dL D s = [])) s d && allB (fun c => emp (dC D c)) 0 54)), ((I, T) : Mem))
  | d, 0, s, _, hn => by omega
  | 0, n + 1, s, hs, hn => by
    have : s = 18 := by omega
    subst this
    have e := mq_loop47 (T := T) sh hE hI hC 54 FU 0 (by omega) (by unfold FU; omega)
    unfold f_m_quiet_22 allB
    rw [Bool.true_and]
    simp (disch := omega) only [↓sh.gI, ↓sh.pI, ↓sh.ck, ↓cI_x, ↓cV_x, ↓nmI_t, ↓reduceIte, rmI_t, dvI_t, nI_add, pk_mul, pk_sub, nI_leI, nI_ltI, nI_eq, n_leT, n_leF, n_ltT, n_ltF, n_eqT, n_eqF, u2_ne, u2_at, u2_nj, ↓i_neg1, m1_ne, m1_en, m1_lt, m1_le, m1_nlt, m1_nle, i_lits, true_and, and_true, ↓sh.g39, sh.a516, sh.s516]
    rw [e]
    rfl
  | d + 1, n + 1, s, hs, hn => by
    have ih := mq_loop22 sh hE hI hC hN d n (s + 1) (by omega) (by omega)
    have h1 := (hN s (by omega)).1.1
    have l3 := li3 hE hI s (by omega)
    have hu : allB (fun s => decide (dL D s = [])) s (d + 1) = (decide (dL D s = []) && allB (fun s => decide (dL D s = [])) (s + 1) d) := rfl
    rw [hu]
    unfold f_m_quiet_22
    by_cases hz : dL D s = []
    · rw [hz, List.length_nil] at h1
      rw [decide_eq_true hz, Bool.true_and]
      simp (disch := omega) only [↓sh.gI, ↓sh.pI, ↓sh.ck, ↓cI_x, ↓cV_x, ↓nmI_t, ↓reduceIte, rmI_t, dvI_t, nI_add, pk_mul, pk_sub, nI_leI, nI_ltI, nI_eq, n_leT, n_leF, n_ltT, n_ltF, n_eqT, n_eqF, u2_ne, u2_at, u2_nj, ↓i_neg1, m1_ne, m1_en, m1_lt, m1_le, m1_nlt, m1_nle, i_lits, true_and, and_true, ↓sh.g39, sh.a516, sh.s516, h1, ih]
    · have hl : 0 < (dL D s).length := List.length_pos_iff.mpr hz
      rw [decide_eq_false hz, Bool.false_and]
      simp (disch := omega) only [↓sh.gI, ↓sh.pI, ↓sh.ck, ↓cI_x, ↓cV_x, ↓nmI_t, ↓reduceIte, rmI_t, dvI_t, nI_add, pk_mul, pk_sub, nI_leI, nI_ltI, nI_eq, n_leT, n_leF, n_ltT, n_ltF, n_eqT, n_eqF, u2_ne, u2_at, u2_nj, ↓i_neg1, m1_ne, m1_en, m1_lt, m1_le, m1_nlt, m1_nle, i_lits, true_and, and_true, ↓sh.g39, sh.a516, sh.s516, h1, Bool.false_and, b01, Bool.false_eq_true]
theorem m_quiet (sh : shM T) (hE : okE E) (hI : Inv E D) (hC : MR E D Q (eQ E) tk I T) (hQ : eQ E < 2 ^ 31) : f_m_quiet 492 ((I, T) : Mem) = some (nI (b01 (qtB E D)), ((I, T) : Mem)) := by
  have hle := hI.2.2.2.2.2.2.1
  have h60 := hE.2.2.2.2.2.2.2.2.2.2.2
  have h13 := hC.1.2.2.2.2.2.1
  have h14 := hC.2.2.2.2.2.1.1
  have h17 := hC.2.2.2.2.2.2.2.2.2.2.2.1
  have e := mq_loop22 (T := T) sh hE hI hC.2.1 hC.2.2.1 18 FU 0 (by omega) (by unfold FU; omega)
  have hb : qtB E D = (decide (dO D = (eI E).length) && (decide (eQ E = 0) && (allB (fun s => decide (dL D s = [])) 0 18 && allB (fun c => emp (dC D c)) 0 54))) := by
    rw [Bool.eq_iff_iff, qtB_iff hE hI, Bool.and_eq_true, Bool.and_eq_true, Bool.and_eq_true, decide_eq_true_eq, decide_eq_true_eq, allB_iff, allB_iff]
    unfold quietD
    refine ⟨fun ⟨h1, h2, h3, h4⟩ => ⟨h1, h2, fun x _ _ => decide_eq_true (h4 x), fun x _ _ => decide_eq_true (h3 x)⟩, fun ⟨h1, h2, h3, h4⟩ => ⟨h1, h2, fun c => ?_, fun s => ?_⟩⟩
    · by_cases hz : c < 54
      · exact of_decide_eq_true (h4 c (Nat.zero_le _) (by omega))
      · exact hI.2.1 c (fun o i j v e => by have := lin45 hE v; omega)
    · by_cases hz : s < 18
      · exact of_decide_eq_true (h3 s (Nat.zero_le _) (by omega))
      · exact (hI.2.2.2.1 s (fun o i h1 h2 e => by
          have := spt18 hE (o := o) (i := i) ⟨by omega, h2⟩
          omega)).1
  rw [hb]
  unfold f_m_quiet
  by_cases h1 : dO D = (eI E).length
  · rw [h1] at h14
    by_cases h2 : eQ E = 0
    · rw [h2] at h17
      rw [decide_eq_true h1, decide_eq_true h2, Bool.true_and, Bool.true_and]
      simp (disch := omega) only [↓sh.gI, ↓sh.pI, ↓sh.ck, ↓cI_x, ↓cV_x, ↓nmI_t, ↓reduceIte, rmI_t, dvI_t, nI_add, pk_mul, pk_sub, nI_leI, nI_ltI, nI_eq, n_leT, n_leF, n_ltT, n_ltF, n_eqT, n_eqF, u2_ne, u2_at, u2_nj, ↓i_neg1, m1_ne, m1_en, m1_lt, m1_le, m1_nlt, m1_nle, i_lits, true_and, and_true, h13, h14, h17, e]
    · rw [decide_eq_false h2, Bool.false_and, Bool.and_false]
      simp (disch := omega) only [↓sh.gI, ↓sh.pI, ↓sh.ck, ↓cI_x, ↓cV_x, ↓nmI_t, ↓reduceIte, rmI_t, dvI_t, nI_add, pk_mul, pk_sub, nI_leI, nI_ltI, nI_eq, n_leT, n_leF, n_ltT, n_ltF, n_eqT, n_eqF, u2_ne, u2_at, u2_nj, ↓i_neg1, m1_ne, m1_en, m1_lt, m1_le, m1_nlt, m1_nle, i_lits, true_and, and_true, h13, h14, h17, b01, Bool.false_eq_true]
  · rw [decide_eq_false h1, Bool.false_and]
    simp (disch := omega) only [↓sh.gI, ↓sh.pI, ↓sh.ck, ↓cI_x, ↓cV_x, ↓nmI_t, ↓reduceIte, rmI_t, dvI_t, nI_add, pk_mul, pk_sub, nI_leI, nI_ltI, nI_eq, n_leT, n_leF, n_ltT, n_ltF, n_eqT, n_eqF, u2_ne, u2_at, u2_nj, ↓i_neg1, m1_ne, m1_en, m1_lt, m1_le, m1_nlt, m1_nle, i_lits, true_and, and_true, h13, h14, b01, Bool.false_eq_true]
theorem b01_cs {α : Type} {b : Bool} {x y : α} : (if nI (b01 b) = (0 : Int32) then x else y) = if b then y else x := by cases b <;> rfl
-- isQuiet
theorem x_isQuiet (hC : SC S I T) (h : PD S k) (hk : k ≤ 512) : f_x_isQuiet 0 ((I, T) : Mem) = some (nI (b01 (qtB (yE S) (yD S))), ((I, T) : Mem)) := by
  obtain ⟨sh, shx, -, -, -, ⟨g, hC⟩, -⟩ := hC
  obtain ⟨⟨hE, -, hI, -, -, -, -, -, -, -, -, hq⟩, -⟩ := h
  have e := sm_quiet (T := T) sh hE hI hC (by omega)
  obtain ⟨x0, -, -, -, x3, -⟩ := shx
  have ksm := sh.1
  unfold f_x_isQuiet
  rw [gA_t x0, x3, onR_s, ck_t ksm, e, cI_x, b01_cs]
  cases qtB (yE S) (yD S) <;> rfl
theorem m_isQuiet (sh : shM T) (hC : SM S I T) (h : PD S k) (hk : k ≤ 512) : f_m_isQuiet 492 ((I, T) : Mem) = some (nI (b01 (qtB (yE S) (yD S))), ((I, T) : Mem)) := by
  obtain ⟨⟨hE, -, hI, -, -, -, -, -, -, -, -, hq⟩, -⟩ := h
  have e := m_quiet (T := T) sh hE hI hC.1 (by omega)
  unfold f_m_isQuiet
  rw [sh.ck, e, cI_x, b01_cs]
  cases qtB (yE S) (yD S) <;> rfl
end
