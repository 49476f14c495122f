/-! THE CLASS: what changes a channel -/
theorem RA_hd {row row' : Nat → Int32} {m s : Nat} {l : List Int32} {v w : Int32} (hm : m3 m) (hs : s < m) (h : RA row m s (v :: l)) (hl : l.length < m) (h1 : row' s = w) (h2 : ∀ x, x ≠ s → row' x = row x) : RA row' m s (w :: l) := fun j hj => by
  cases j with
  | zero =>
    rw [Nat.add_zero, Nat.mod_eq_of_lt hs, h1]
    rfl
  | succ j =>
    have hj' : j < l.length := by simpa using hj
    have := h (j + 1) (by simp; omega)
    simp only [List.getElem_cons_succ] at this ⊢
    rw [← this, h2 _ (by unfold m3 at hm; rcases hm with rfl | rfl | rfl <;> omega)]
theorem RA_popu {row row' : Nat → Int32} {m s : Nat} {l : List Int32} {v : Int32} (hm : m3 m) (hs : s < m) (h : RA row m s (v :: l)) (hl : l.length < m) (h2 : ∀ x, x ≠ s → row' x = row x) : RA row' m ((s + 1) % m) l := RA_pop hm (RA_hd hm hs h hl rfl h2)
section
variable {T : Tl} {I : Iw} {p s g c : Nat} {x : Ch}
theorem flatH_clo : flatH (clo1 x) = flatH x := by simp [flatH, clo1, flatQ_app, flatQ]
theorem ch_closeOpen (sh : shCh T p) (h : ChC I p x) (hq : x.1.length < 4) : ∃ I', f_ch_closeOpen p ((I, T) : Mem) = some ((I', T) : Mem) ∧ Frm p 6 I I' ∧ ChC I' p (clo1 x) := by
  obtain ⟨h1, h2, h3, h4, f, f4, h5, h6⟩ := h
  have e := fun b => ch_enqueue (T := T) sh h2 h5 f4 hq b
  unfold shCh at sh
  refine ⟨u2 (u2 (u2 (u2 I (p + 5) ((f + x.1.length) % 4) (nI x.2.1.length)) p 4 (nI (x.1.length + 1))) p 5 (nI 0)) p 6 (nI 0), ?_, ?_, ?_⟩
  · unfold f_ch_closeOpen
    simp (disch := omega) only [↓gI_t, ↓pI_t, ↓pZ_t, ↓ck_t, ↓aN_t, ↓cI_s, ↓cV_s, ↓cR_s, ↓onR_s, ↓onR_n, ↓nmI_t, ↓reduceIte, gA_t, aI_t, sI_t, aA_t, aB_t, sB_t, rmI_t, dvI_t, nI_add, pk_mul, pk_sub, nI_leI, nI_ltI, nI_eq, n_leT, n_leF, n_ltT, n_ltF, n_eqT, n_eqF, u2_ne, u2_at, u2_nj, r2_ne, r2_at, ↓i_neg1, m1_ne, m1_en, m1_lt, m1_le, m1_nlt, m1_nle, i_lits, true_and, and_true, sh, h3, e]
  · exact Frm_u2 (Frm_u2 (Frm_u2 (Frm_u2 Frm_rf (by omega) (by omega)) (by omega) (by omega)) (by omega) (by omega)) (by omega) (by omega)
  · refine ⟨?_, ?_, ?_, ?_, f, f4, ?_, ?_⟩
    · rw [flatH_clo]
      exact Rng_cg h1 (fun a ha hb => by simp (disch := omega) only [u2_ne])
    · simp (disch := omega) only [↓gI_t, ↓pI_t, ↓pZ_t, ↓ck_t, ↓aN_t, ↓cI_s, ↓cV_s, ↓cR_s, ↓onR_s, ↓onR_n, ↓nmI_t, ↓reduceIte, gA_t, aI_t, sI_t, aA_t, aB_t, sB_t, rmI_t, dvI_t, nI_add, pk_mul, pk_sub, nI_leI, nI_ltI, nI_eq, n_leT, n_leF, n_ltT, n_ltF, n_eqT, n_eqF, u2_ne, u2_at, u2_nj, r2_ne, r2_at, ↓i_neg1, m1_ne, m1_en, m1_lt, m1_le, m1_nlt, m1_nle, i_lits, true_and, and_true, clo1, List.length_append, List.length_cons, List.length_nil, Nat.zero_add]
    · simp (disch := omega) only [↓gI_t, ↓pI_t, ↓pZ_t, ↓ck_t, ↓aN_t, ↓cI_s, ↓cV_s, ↓cR_s, ↓onR_s, ↓onR_n, ↓nmI_t, ↓reduceIte, gA_t, aI_t, sI_t, aA_t, aB_t, sB_t, rmI_t, dvI_t, nI_add, pk_mul, pk_sub, nI_leI, nI_ltI, nI_eq, n_leT, n_leF, n_ltT, n_ltF, n_eqT, n_eqF, u2_ne, u2_at, u2_nj, r2_ne, r2_at, ↓i_neg1, m1_ne, m1_en, m1_lt, m1_le, m1_nlt, m1_nle, i_lits, true_and, and_true, clo1, List.length_nil]
    · simp (disch := omega) only [↓gI_t, ↓pI_t, ↓pZ_t, ↓ck_t, ↓aN_t, ↓cI_s, ↓cV_s, ↓cR_s, ↓onR_s, ↓onR_n, ↓nmI_t, ↓reduceIte, gA_t, aI_t, sI_t, aA_t, aB_t, sB_t, rmI_t, dvI_t, nI_add, pk_mul, pk_sub, nI_leI, nI_ltI, nI_eq, n_leT, n_leF, n_ltT, n_ltF, n_eqT, n_eqF, u2_ne, u2_at, u2_nj, r2_ne, r2_at, ↓i_neg1, m1_ne, m1_en, m1_lt, m1_le, m1_nlt, m1_nle, i_lits, true_and, and_true, clo1]
    · simp (disch := omega) only [↓gI_t, ↓pI_t, ↓pZ_t, ↓ck_t, ↓aN_t, ↓cI_s, ↓cV_s, ↓cR_s, ↓onR_s, ↓onR_n, ↓nmI_t, ↓reduceIte, gA_t, aI_t, sI_t, aA_t, aB_t, sB_t, rmI_t, dvI_t, nI_add, pk_mul, pk_sub, nI_leI, nI_ltI, nI_eq, n_leT, n_leF, n_ltT, n_ltF, n_eqT, n_eqF, u2_ne, u2_at, u2_nj, r2_ne, r2_at, ↓i_neg1, m1_ne, m1_en, m1_lt, m1_le, m1_nlt, m1_nle, i_lits, true_and, and_true, h5]
    · simp only [clo1, List.map_append, List.map_cons, List.map_nil]
      simp (disch := omega) only [u2_ne, u2_rw1]
      exact RA_push (v := blen (some x.2.1)) m3_4 h6 (by simpa using hq) (by rw [List.length_map, upw_eq]; rfl) (fun y hy => by rw [List.length_map] at hy; exact upw_ne hy)
theorem flatH_put1 {r : Rec} : flatH (putR1 x r) = flatH x ++ [r] := by simp [flatH, putR1]
theorem ch_put18 (sh : shCh T p) (hs : SeC I s g c) (h : ChC I p x) (hh : chOK s c x) (hs4 : s ≤ 4) (hc : c ≤ 4) (ho : x.2.1.length < s) (r : Rec) : ∃ I', f_ch_putRecord_18 p (kv r.1) r.2.1 (nI r.2.2) ((I, T) : Mem) = some ((I', T) : Mem) ∧ Frm p 6 I I' ∧ ChC I' p (if s ≤ (putR1 x r).2.1.length ∧ (putR1 x r).1.length < c then clo1 (putR1 x r) else putR1 x r) := by
  have hlen := flatH_len hh hs4 hc
  have q4 := hh.1
  obtain ⟨h1, h2, h3, h4, f, f4, h5, h6⟩ := id h
  have sh' := sh
  unfold shCh at sh'
  obtain ⟨I1, e1, g1, r1⟩ := rc_add m3_32 sh'.2.2.2.2.2.2.2.2 h1 (by omega) r
  have eP : I1 p = I p := g1 p (by omega)
  have eQ : I1 (p + 5) = I (p + 5) := g1 _ (by omega)
  have eS : I1 11 = I 11 := g1 _ (by omega)
  have hp5 : (putR1 x r).2.1.length = x.2.1.length + 1 := by simp [putR1]
  obtain ⟨I2, hI2⟩ : ∃ I2, I2 = u2 I1 p 5 (nI (x.2.1.length + 1)) := ⟨_, rfl⟩
  have k2 : ChC I2 p (putR1 x r) := by
    rw [hI2]
    refine ⟨?_, ?_, ?_, ?_, f, f4, ?_, ?_⟩
    · rw [flatH_put1]
      exact Rng_cg r1 (fun a ha hb => by simp (disch := omega) only [u2_ne])
    · simp (disch := omega) only [↓gI_t, ↓pI_t, ↓pZ_t, ↓ck_t, ↓aN_t, ↓cI_s, ↓cV_s, ↓cR_s, ↓onR_s, ↓onR_n, ↓nmI_t, ↓reduceIte, gA_t, aI_t, sI_t, aA_t, aB_t, sB_t, rmI_t, dvI_t, nI_add, pk_mul, pk_sub, nI_leI, nI_ltI, nI_eq, n_leT, n_leF, n_ltT, n_ltF, n_eqT, n_eqF, u2_ne, u2_at, u2_nj, r2_ne, r2_at, ↓i_neg1, m1_ne, m1_en, m1_lt, m1_le, m1_nlt, m1_nle, i_lits, true_and, and_true, eP, h2]
      rfl
    · simp (disch := omega) only [↓gI_t, ↓pI_t, ↓pZ_t, ↓ck_t, ↓aN_t, ↓cI_s, ↓cV_s, ↓cR_s, ↓onR_s, ↓onR_n, ↓nmI_t, ↓reduceIte, gA_t, aI_t, sI_t, aA_t, aB_t, sB_t, rmI_t, dvI_t, nI_add, pk_mul, pk_sub, nI_leI, nI_ltI, nI_eq, n_leT, n_leF, n_ltT, n_ltF, n_eqT, n_eqF, u2_ne, u2_at, u2_nj, r2_ne, r2_at, ↓i_neg1, m1_ne, m1_en, m1_lt, m1_le, m1_nlt, m1_nle, i_lits, true_and, and_true, hp5]
    · simp (disch := omega) only [↓gI_t, ↓pI_t, ↓pZ_t, ↓ck_t, ↓aN_t, ↓cI_s, ↓cV_s, ↓cR_s, ↓onR_s, ↓onR_n, ↓nmI_t, ↓reduceIte, gA_t, aI_t, sI_t, aA_t, aB_t, sB_t, rmI_t, dvI_t, nI_add, pk_mul, pk_sub, nI_leI, nI_ltI, nI_eq, n_leT, n_leF, n_ltT, n_ltF, n_eqT, n_eqF, u2_ne, u2_at, u2_nj, r2_ne, r2_at, ↓i_neg1, m1_ne, m1_en, m1_lt, m1_le, m1_nlt, m1_nle, i_lits, true_and, and_true, eP, h4]
      rfl
    · simp (disch := omega) only [↓gI_t, ↓pI_t, ↓pZ_t, ↓ck_t, ↓aN_t, ↓cI_s, ↓cV_s, ↓cR_s, ↓onR_s, ↓onR_n, ↓nmI_t, ↓reduceIte, gA_t, aI_t, sI_t, aA_t, aB_t, sB_t, rmI_t, dvI_t, nI_add, pk_mul, pk_sub, nI_leI, nI_ltI, nI_eq, n_leT, n_leF, n_ltT, n_ltF, n_eqT, n_eqF, u2_ne, u2_at, u2_nj, r2_ne, r2_at, ↓i_neg1, m1_ne, m1_en, m1_lt, m1_le, m1_nlt, m1_nle, i_lits, true_and, and_true, eP, h5]
    · simp (disch := omega) only [u2_ne, eQ]
      exact h6
  have eS2 : I2 11 = I 11 := by rw [hI2]; simp (disch := omega) only [u2_ne, eS]
  have s2 : SeC I2 s g c := by unfold SeC; rw [eS2]; exact hs
  have f2 : Frm p 6 I I2 := by
    rw [hI2]
    exact Frm_u2 (Frm_up g1 (by omega) (by omega)) (by omega) (by omega)
  have eR := ch_hasRoom (T := T) sh s2 k2 hc (by show x.1.length ≤ 4; omega)
  have eU : I2 p 5 = nI (x.2.1.length + 1) := by rw [hI2]; exact u2_at rfl rfl
  have k9 := sh'.2.2.2.2.2.2.2.2.1
  have hpre : f_ch_putRecord_18 p (kv r.1) r.2.1 (nI r.2.2) ((I, T) : Mem) = (if nI (x.2.1.length + 1) < nI s then some ((I2, T) : Mem) else cI (f_ch_hasRoom p ((I2, T) : Mem)) fun v9 M8 => if v9 = nI 0 then some M8 else ck M8 p 1 <| cV (f_ch_closeOpen p M8) fun M10 => some M10) := by
    unfold f_ch_putRecord_18
    simp (disch := omega) only [gI_t, gA_t, pI_t, ck_t, cV_s, onR_s, sh', k9, e1, eP, eS, h3, i_lits, nI_add, ← hI2, eU, eS2, hs.1]
  rw [hpre, eR]
  by_cases z : x.2.1.length + 1 < s
  · refine ⟨I2, ?_, f2, ?_⟩
    · simp (disch := omega) only [↓gI_t, ↓pI_t, ↓pZ_t, ↓ck_t, ↓aN_t, ↓cI_s, ↓cV_s, ↓cR_s, ↓onR_s, ↓onR_n, ↓nmI_t, ↓reduceIte, gA_t, aI_t, sI_t, aA_t, aB_t, sB_t, rmI_t, dvI_t, nI_add, pk_mul, pk_sub, nI_leI, nI_ltI, nI_eq, n_leT, n_leF, n_ltT, n_ltF, n_eqT, n_eqF, u2_ne, u2_at, u2_nj, r2_ne, r2_at, ↓i_neg1, m1_ne, m1_en, m1_lt, m1_le, m1_nlt, m1_nle, i_lits, true_and, and_true]
    · rw [if_neg (by omega)]
      exact k2
  · by_cases y : x.1.length < c
    · obtain ⟨I3, e3, g3, r3⟩ := ch_closeOpen (T := T) sh k2 (by show x.1.length < 4; omega)
      refine ⟨I3, ?_, Frm_tr f2 g3, ?_⟩
      · have : (putR1 x r).1.length < c := y
        simp (disch := omega) only [↓gI_t, ↓pI_t, ↓pZ_t, ↓ck_t, ↓aN_t, ↓cI_s, ↓cV_s, ↓cR_s, ↓onR_s, ↓onR_n, ↓nmI_t, ↓reduceIte, gA_t, aI_t, sI_t, aA_t, aB_t, sB_t, rmI_t, dvI_t, nI_add, pk_mul, pk_sub, nI_leI, nI_ltI, nI_eq, n_leT, n_leF, n_ltT, n_ltF, n_eqT, n_eqF, u2_ne, u2_at, u2_nj, r2_ne, r2_at, ↓i_neg1, m1_ne, m1_en, m1_lt, m1_le, m1_nlt, m1_nle, i_lits, true_and, and_true, this, decide_true, b01, e3, sh']
      · rw [if_pos ⟨by omega, y⟩]
        exact r3
    · refine ⟨I2, ?_, f2, ?_⟩
      · have : ¬ (putR1 x r).1.length < c := y
        simp (disch := omega) only [↓gI_t, ↓pI_t, ↓pZ_t, ↓ck_t, ↓aN_t, ↓cI_s, ↓cV_s, ↓cR_s, ↓onR_s, ↓onR_n, ↓nmI_t, ↓reduceIte, gA_t, aI_t, sI_t, aA_t, aB_t, sB_t, rmI_t, dvI_t, nI_add, pk_mul, pk_sub, nI_leI, nI_ltI, nI_eq, n_leT, n_leF, n_ltT, n_ltF, n_eqT, n_eqF, u2_ne, u2_at, u2_nj, r2_ne, r2_at, ↓i_neg1, m1_ne, m1_en, m1_lt, m1_le, m1_nlt, m1_nle, i_lits, true_and, and_true, this, decide_false, b01, Bool.false_eq_true]
      · rw [if_neg (fun w => y w.2)]
        exact k2
theorem ch_putRecord (sh : shCh T p) (hs : SeC I s g c) (h : ChC I p x) (hh : chOK s c x) (hs4 : 1 ≤ s ∧ s ≤ 4) (hc : c ≤ 4) (ht : tkR s c x = true) (r : Rec) : ∃ I', f_ch_putRecord p (kv r.1) r.2.1 (nI r.2.2) ((I, T) : Mem) = some ((I', T) : Mem) ∧ Frm p 6 I I' ∧ ChC I' p (putR s c x r) := by
  have sh' := sh
  unfold shCh at sh'
  have h3 := h.2.2.1
  have o4 := hh.2.1
  unfold f_ch_putRecord putR
  by_cases z : x.2.1.length < s
  · obtain ⟨I1, e1, g1, r1⟩ := ch_put18 (T := T) sh hs h hh hs4.2 hc z r
    refine ⟨I1, ?_, g1, ?_⟩
    · simp (disch := omega) only [↓gI_t, ↓pI_t, ↓pZ_t, ↓ck_t, ↓aN_t, ↓cI_s, ↓cV_s, ↓cR_s, ↓onR_s, ↓onR_n, ↓nmI_t, ↓reduceIte, gA_t, aI_t, sI_t, aA_t, aB_t, sB_t, rmI_t, dvI_t, nI_add, pk_mul, pk_sub, nI_leI, nI_ltI, nI_eq, n_leT, n_leF, n_ltT, n_ltF, n_eqT, n_eqF, u2_ne, u2_at, u2_nj, r2_ne, r2_at, ↓i_neg1, m1_ne, m1_en, m1_lt, m1_le, m1_nlt, m1_nle, i_lits, true_and, and_true, sh', h3, hs.1, e1]
    · simp only [if_neg (Nat.not_le.mpr z)]
      exact r1
  · have hr : x.1.length < c := by
      simp only [tkR, Bool.or_eq_true, decide_eq_true_eq] at ht
      omega
    obtain ⟨I1, e1, g1, r1⟩ := ch_closeOpen (T := T) sh h (by omega)
    obtain ⟨c1, c2, c3⟩ := clo1_ok hh hr (by intro hn; rw [hn] at z; simp at z; omega)
    have eS : I1 11 = I 11 := g1 _ (by omega)
    have s1 : SeC I1 s g c := by unfold SeC; rw [eS]; exact hs
    obtain ⟨I2, e2, g2, r2⟩ := ch_put18 (T := T) sh s1 r1 c1 hs4.2 hc (by simp [clo1]; omega) r
    refine ⟨I2, ?_, Frm_tr g1 g2, ?_⟩
    · simp (disch := omega) only [↓gI_t, ↓pI_t, ↓pZ_t, ↓ck_t, ↓aN_t, ↓cI_s, ↓cV_s, ↓cR_s, ↓onR_s, ↓onR_n, ↓nmI_t, ↓reduceIte, gA_t, aI_t, sI_t, aA_t, aB_t, sB_t, rmI_t, dvI_t, nI_add, pk_mul, pk_sub, nI_leI, nI_ltI, nI_eq, n_leT, n_leF, n_ltT, n_ltF, n_eqT, n_eqF, u2_ne, u2_at, u2_nj, r2_ne, r2_at, ↓i_neg1, m1_ne, m1_en, m1_lt, m1_le, m1_nlt, m1_nle, i_lits, true_and, and_true, sh', h3, hs.1, e1, e2]
    · simp only [if_pos (Nat.not_lt.mp z)]
      exact r2
theorem ch_putBarrier (sh : shCh T p) (h : ChC I p x) (hh : chOK s c x) (hs4 : s ≤ 4) (hc : c ≤ 4) (ht : tkB c x = true) : ∃ I', f_ch_putBarrier p ((I, T) : Mem) = some ((I', T) : Mem) ∧ Frm p 6 I I' ∧ ChC I' p (putB x) := by
  have sh' := sh
  unfold shCh at sh'
  have o4 := hh.2.1
  simp only [tkB, decide_eq_true_eq] at ht
  have key : ∀ (I1 : Iw) (x1 : Ch), Frm p 6 I I1 → ChC I1 p x1 → x1.1.length < c → x1.2.1 = [] → ∃ I', f_ch_putBarrier_11 p ((I1, T) : Mem) = some ((I', T) : Mem) ∧ Frm p 6 I I' ∧ ChC I' p (x1.1 ++ [none], x1.2) := by
    intro I1 x1 f1 k1 l1 n1
    obtain ⟨h1, h2, h3, h4, f, f4, h5, h6⟩ := k1
    have e := ch_enqueue (T := T) sh h2 h5 f4 (by omega) m1
    refine ⟨u2 (u2 I1 (p + 5) ((f + x1.1.length) % 4) m1) p 4 (nI (x1.1.length + 1)), ?_, ?_, ?_⟩
    · unfold f_ch_putBarrier_11
      simp (disch := omega) only [ck_t, cV_s, sh', ↓i_neg1, e]
    · exact Frm_u2 (Frm_u2 f1 (by omega) (by omega)) (by omega) (by omega)
    · refine ⟨?_, ?_, ?_, ?_, f, f4, ?_, ?_⟩
      · have : flatH (x1.1 ++ [none], x1.2) = flatH x1 := by simp [flatH, flatQ_app, flatQ]
        rw [this]
        exact Rng_cg h1 (fun a ha hb => by simp (disch := omega) only [u2_ne])
      · simp (disch := omega) only [↓gI_t, ↓pI_t, ↓pZ_t, ↓ck_t, ↓aN_t, ↓cI_s, ↓cV_s, ↓cR_s, ↓onR_s, ↓onR_n, ↓nmI_t, ↓reduceIte, gA_t, aI_t, sI_t, aA_t, aB_t, sB_t, rmI_t, dvI_t, nI_add, pk_mul, pk_sub, nI_leI, nI_ltI, nI_eq, n_leT, n_leF, n_ltT, n_ltF, n_eqT, n_eqF, u2_ne, u2_at, u2_nj, r2_ne, r2_at, ↓i_neg1, m1_ne, m1_en, m1_lt, m1_le, m1_nlt, m1_nle, i_lits, true_and, and_true, List.length_append, List.length_cons, List.length_nil, Nat.zero_add]
      · simp (disch := omega) only [↓gI_t, ↓pI_t, ↓pZ_t, ↓ck_t, ↓aN_t, ↓cI_s, ↓cV_s, ↓cR_s, ↓onR_s, ↓onR_n, ↓nmI_t, ↓reduceIte, gA_t, aI_t, sI_t, aA_t, aB_t, sB_t, rmI_t, dvI_t, nI_add, pk_mul, pk_sub, nI_leI, nI_ltI, nI_eq, n_leT, n_leF, n_ltT, n_ltF, n_eqT, n_eqF, u2_ne, u2_at, u2_nj, r2_ne, r2_at, ↓i_neg1, m1_ne, m1_en, m1_lt, m1_le, m1_nlt, m1_nle, i_lits, true_and, and_true, h3]
      · simp (disch := omega) only [↓gI_t, ↓pI_t, ↓pZ_t, ↓ck_t, ↓aN_t, ↓cI_s, ↓cV_s, ↓cR_s, ↓onR_s, ↓onR_n, ↓nmI_t, ↓reduceIte, gA_t, aI_t, sI_t, aA_t, aB_t, sB_t, rmI_t, dvI_t, nI_add, pk_mul, pk_sub, nI_leI, nI_ltI, nI_eq, n_leT, n_leF, n_ltT, n_ltF, n_eqT, n_eqF, u2_ne, u2_at, u2_nj, r2_ne, r2_at, ↓i_neg1, m1_ne, m1_en, m1_lt, m1_le, m1_nlt, m1_nle, i_lits, true_and, and_true, h4]
      · simp (disch := omega) only [↓gI_t, ↓pI_t, ↓pZ_t, ↓ck_t, ↓aN_t, ↓cI_s, ↓cV_s, ↓cR_s, ↓onR_s, ↓onR_n, ↓nmI_t, ↓reduceIte, gA_t, aI_t, sI_t, aA_t, aB_t, sB_t, rmI_t, dvI_t, nI_add, pk_mul, pk_sub, nI_leI, nI_ltI, nI_eq, n_leT, n_leF, n_ltT, n_ltF, n_eqT, n_eqF, u2_ne, u2_at, u2_nj, r2_ne, r2_at, ↓i_neg1, m1_ne, m1_en, m1_lt, m1_le, m1_nlt, m1_nle, i_lits, true_and, and_true, h5]
      · simp only [List.map_append, List.map_cons, List.map_nil]
        simp (disch := omega) only [u2_ne, u2_rw1]
        exact RA_push (v := blen none) m3_4 h6 (by simp; omega) (by rw [List.length_map, upw_eq]; rfl) (fun y hy => by rw [List.length_map] at hy; exact upw_ne hy)
  have h3 := h.2.2.1
  unfold f_ch_putBarrier putB
  by_cases z : x.2.1 = []
  · rw [if_pos z] at ht
    obtain ⟨I1, e1, g1, r1⟩ := key I x Frm_rf h (by omega) z
    refine ⟨I1, ?_, g1, ?_⟩
    · simp (disch := omega) only [↓gI_t, ↓pI_t, ↓pZ_t, ↓ck_t, ↓aN_t, ↓cI_s, ↓cV_s, ↓cR_s, ↓onR_s, ↓onR_n, ↓nmI_t, ↓reduceIte, gA_t, aI_t, sI_t, aA_t, aB_t, sB_t, rmI_t, dvI_t, nI_add, pk_mul, pk_sub, nI_leI, nI_ltI, nI_eq, n_leT, n_leF, n_ltT, n_ltF, n_eqT, n_eqF, u2_ne, u2_at, u2_nj, r2_ne, r2_at, ↓i_neg1, m1_ne, m1_en, m1_lt, m1_le, m1_nlt, m1_nle, i_lits, true_and, and_true, sh', h3, z, List.length_nil, e1]
    · simp only [if_pos z]
      exact r1
  · rw [if_neg z] at ht
    have zl : 0 < x.2.1.length := List.length_pos_iff.mpr z
    obtain ⟨I0, e0, g0, r0⟩ := ch_closeOpen (T := T) sh h (by omega)
    obtain ⟨I1, e1, g1, r1⟩ := key I0 (clo1 x) g0 r0 (by simp [clo1]; omega) rfl
    refine ⟨I1, ?_, g1, ?_⟩
    · simp (disch := omega) only [↓gI_t, ↓pI_t, ↓pZ_t, ↓ck_t, ↓aN_t, ↓cI_s, ↓cV_s, ↓cR_s, ↓onR_s, ↓onR_n, ↓nmI_t, ↓reduceIte, gA_t, aI_t, sI_t, aA_t, aB_t, sB_t, rmI_t, dvI_t, nI_add, pk_mul, pk_sub, nI_leI, nI_ltI, nI_eq, n_leT, n_leF, n_ltT, n_ltF, n_eqT, n_eqF, u2_ne, u2_at, u2_nj, r2_ne, r2_at, ↓i_neg1, m1_ne, m1_en, m1_lt, m1_le, m1_nlt, m1_nle, i_lits, true_and, and_true, sh', h3, e0, e1]
    · simp only [if_neg z]
      exact r1
theorem ch_growOlder (sh : shCh T p) (hs : SeC I s g c) (h : ChC I p x) (hh : chOK s c x) (hs4 : s ≤ 4) (hg : g ≤ 9) (hc : c ≤ 4) (ha : x.2.2 < 1000000) : ∃ I', f_ch_growOlder p ((I, T) : Mem) = some ((I', T) : Mem) ∧ Frm p 6 I I' ∧ ChC I' p (grow g c x) := by
  have sh' := sh
  unfold shCh at sh'
  have q4 := hh.1
  have o4 := hh.2.1
  obtain ⟨h1, h2, h3, h4, f, f4, h5, h6⟩ := id h
  unfold f_ch_growOlder grow
  by_cases z : x.2.1 = []
  · refine ⟨I, ?_, Frm_rf, ?_⟩
    · simp (disch := omega) only [↓gI_t, ↓pI_t, ↓pZ_t, ↓ck_t, ↓aN_t, ↓cI_s, ↓cV_s, ↓cR_s, ↓onR_s, ↓onR_n, ↓nmI_t, ↓reduceIte, gA_t, aI_t, sI_t, aA_t, aB_t, sB_t, rmI_t, dvI_t, nI_add, pk_mul, pk_sub, nI_leI, nI_ltI, nI_eq, n_leT, n_leF, n_ltT, n_ltF, n_eqT, n_eqF, u2_ne, u2_at, u2_nj, r2_ne, r2_at, ↓i_neg1, m1_ne, m1_en, m1_lt, m1_le, m1_nlt, m1_nle, i_lits, true_and, and_true, sh', h3, z, List.length_nil]
    · rw [if_pos z]; exact h
  · have zl : 0 < x.2.1.length := List.length_pos_iff.mpr z
    rw [if_neg z]
    obtain ⟨I2, hI2⟩ : ∃ I2, I2 = u2 I p 6 (nI (x.2.2 + 1)) := ⟨_, rfl⟩
    have k2 : ChC I2 p (x.1, x.2.1, x.2.2 + 1) := by
      rw [hI2]
      refine ⟨?_, ?_, ?_, ?_, f, f4, ?_, ?_⟩
      · exact Rng_cg h1 (fun a ha hb => by simp (disch := omega) only [u2_ne])
      · simp (disch := omega) only [↓gI_t, ↓pI_t, ↓pZ_t, ↓ck_t, ↓aN_t, ↓cI_s, ↓cV_s, ↓cR_s, ↓onR_s, ↓onR_n, ↓nmI_t, ↓reduceIte, gA_t, aI_t, sI_t, aA_t, aB_t, sB_t, rmI_t, dvI_t, nI_add, pk_mul, pk_sub, nI_leI, nI_ltI, nI_eq, n_leT, n_leF, n_ltT, n_ltF, n_eqT, n_eqF, u2_ne, u2_at, u2_nj, r2_ne, r2_at, ↓i_neg1, m1_ne, m1_en, m1_lt, m1_le, m1_nlt, m1_nle, i_lits, true_and, and_true, h2]
      · simp (disch := omega) only [↓gI_t, ↓pI_t, ↓pZ_t, ↓ck_t, ↓aN_t, ↓cI_s, ↓cV_s, ↓cR_s, ↓onR_s, ↓onR_n, ↓nmI_t, ↓reduceIte, gA_t, aI_t, sI_t, aA_t, aB_t, sB_t, rmI_t, dvI_t, nI_add, pk_mul, pk_sub, nI_leI, nI_ltI, nI_eq, n_leT, n_leF, n_ltT, n_ltF, n_eqT, n_eqF, u2_ne, u2_at, u2_nj, r2_ne, r2_at, ↓i_neg1, m1_ne, m1_en, m1_lt, m1_le, m1_nlt, m1_nle, i_lits, true_and, and_true, h3]
      · simp (disch := omega) only [↓gI_t, ↓pI_t, ↓pZ_t, ↓ck_t, ↓aN_t, ↓cI_s, ↓cV_s, ↓cR_s, ↓onR_s, ↓onR_n, ↓nmI_t, ↓reduceIte, gA_t, aI_t, sI_t, aA_t, aB_t, sB_t, rmI_t, dvI_t, nI_add, pk_mul, pk_sub, nI_leI, nI_ltI, nI_eq, n_leT, n_leF, n_ltT, n_ltF, n_eqT, n_eqF, u2_ne, u2_at, u2_nj, r2_ne, r2_at, ↓i_neg1, m1_ne, m1_en, m1_lt, m1_le, m1_nlt, m1_nle, i_lits, true_and, and_true]
      · simp (disch := omega) only [↓gI_t, ↓pI_t, ↓pZ_t, ↓ck_t, ↓aN_t, ↓cI_s, ↓cV_s, ↓cR_s, ↓onR_s, ↓onR_n, ↓nmI_t, ↓reduceIte, gA_t, aI_t, sI_t, aA_t, aB_t, sB_t, rmI_t, dvI_t, nI_add, pk_mul, pk_sub, nI_leI, nI_ltI, nI_eq, n_leT, n_leF, n_ltT, n_ltF, n_eqT, n_eqF, u2_ne, u2_at, u2_nj, r2_ne, r2_at, ↓i_neg1, m1_ne, m1_en, m1_lt, m1_le, m1_nlt, m1_nle, i_lits, true_and, and_true, h5]
      · simp (disch := omega) only [u2_ne]
        exact h6
    have eS2 : I2 11 = I 11 := by rw [hI2]; simp (disch := omega) only [u2_ne]
    have s2 : SeC I2 s g c := by unfold SeC; rw [eS2]; exact hs
    have f2 : Frm p 6 I I2 := by rw [hI2]; exact Frm_u2 Frm_rf (by omega) (by omega)
    have eU : I2 p 6 = nI (x.2.2 + 1) := by rw [hI2]; exact u2_at rfl rfl
    have eR := ch_hasRoom (T := T) sh s2 k2 hc (by show x.1.length ≤ 4; omega)
    have hpre : (gI 1 5 ((I, T) : Mem) p fun v1 => if v1 = (0 : Int32) then (some ((I, T) : Mem)) else gI 1 6 ((I, T) : Mem) p fun v2 => pI 1 6 ((I, T) : Mem) p (v2 + (1 : Int32)) fun M3 => gI 1 6 M3 p fun v4 => gA 1 0 M3 p fun a5 => gI 10 1 M3 a5 fun v6 => if v4 < v6 then (some M3) else ck M3 p 1 <| cI (f_ch_hasRoom p M3) fun v8 M7 => if v8 = (0 : Int32) then (some M7) else ck M7 p 1 <| cV (f_ch_closeOpen p M7) fun M9 => some M9) = (if nI (x.2.2 + 1) < nI g then some ((I2, T) : Mem) else cI (f_ch_hasRoom p ((I2, T) : Mem)) fun v8 M7 => if v8 = nI 0 then (some M7) else ck M7 p 1 <| cV (f_ch_closeOpen p M7) fun M9 => some M9) := by
      simp (disch := omega) only [gI_t, gA_t, pI_t, ck_t, cV_s, onR_s, sh', h3, h4, i_lits, nI_add, ← hI2, eU, eS2, hs.2.1, nI_eq, if_neg]
    rw [hpre, eR]
    by_cases y : x.2.2 + 1 < g
    · refine ⟨I2, ?_, f2, ?_⟩
      · simp (disch := omega) only [↓gI_t, ↓pI_t, ↓pZ_t, ↓ck_t, ↓aN_t, ↓cI_s, ↓cV_s, ↓cR_s, ↓onR_s, ↓onR_n, ↓nmI_t, ↓reduceIte, gA_t, aI_t, sI_t, aA_t, aB_t, sB_t, rmI_t, dvI_t, nI_add, pk_mul, pk_sub, nI_leI, nI_ltI, nI_eq, n_leT, n_leF, n_ltT, n_ltF, n_eqT, n_eqF, u2_ne, u2_at, u2_nj, r2_ne, r2_at, ↓i_neg1, m1_ne, m1_en, m1_lt, m1_le, m1_nlt, m1_nle, i_lits, true_and, and_true]
      · rw [if_neg (by omega)]
        exact k2
    · by_cases w : x.1.length < c
      · obtain ⟨I3, e3, g3, r3⟩ := ch_closeOpen (T := T) sh k2 (by show x.1.length < 4; omega)
        refine ⟨I3, ?_, Frm_tr f2 g3, ?_⟩
        · simp (disch := omega) only [↓gI_t, ↓pI_t, ↓pZ_t, ↓ck_t, ↓aN_t, ↓cI_s, ↓cV_s, ↓cR_s, ↓onR_s, ↓onR_n, ↓nmI_t, ↓reduceIte, gA_t, aI_t, sI_t, aA_t, aB_t, sB_t, rmI_t, dvI_t, nI_add, pk_mul, pk_sub, nI_leI, nI_ltI, nI_eq, n_leT, n_leF, n_ltT, n_ltF, n_eqT, n_eqF, u2_ne, u2_at, u2_nj, r2_ne, r2_at, ↓i_neg1, m1_ne, m1_en, m1_lt, m1_le, m1_nlt, m1_nle, i_lits, true_and, and_true, w, decide_true, b01, e3, sh']
        · rw [if_pos ⟨by omega, w⟩]
          exact r3
      · refine ⟨I2, ?_, f2, ?_⟩
        · simp (disch := omega) only [↓gI_t, ↓pI_t, ↓pZ_t, ↓ck_t, ↓aN_t, ↓cI_s, ↓cV_s, ↓cR_s, ↓onR_s, ↓onR_n, ↓nmI_t, ↓reduceIte, gA_t, aI_t, sI_t, aA_t, aB_t, sB_t, rmI_t, dvI_t, nI_add, pk_mul, pk_sub, nI_leI, nI_ltI, nI_eq, n_leT, n_leF, n_ltT, n_ltF, n_eqT, n_eqF, u2_ne, u2_at, u2_nj, r2_ne, r2_at, ↓i_neg1, m1_ne, m1_en, m1_lt, m1_le, m1_nlt, m1_nle, i_lits, true_and, and_true, w, decide_false, b01, Bool.false_eq_true]
        · rw [if_neg (fun u => w u.2)]
          exact k2
theorem ch_pop52 {n f : Nat} (sh : shCh T p) (h2 : I p 4 = nI (n + 1)) (h5 : I p 3 = nI f) (f4 : f < 4) (hn : n < 4) : f_ch_removeItem_52 p ((I, T) : Mem) = some ((u2 (u2 I p 3 (nI ((f + 1) % 4))) p 4 (nI n), T) : Mem) := by
  unfold shCh at sh
  unfold f_ch_removeItem_52
  have e : nI (f + 1) &&& nI 3 = nI ((f + 1) % 4) := msk3 (by omega)
  simp (disch := omega) only [↓gI_t, ↓pI_t, ↓pZ_t, ↓ck_t, ↓aN_t, ↓cI_s, ↓cV_s, ↓cR_s, ↓onR_s, ↓onR_n, ↓nmI_t, ↓reduceIte, gA_t, aI_t, sI_t, aA_t, aB_t, sB_t, rmI_t, dvI_t, nI_add, pk_mul, pk_sub, nI_leI, nI_ltI, nI_eq, n_leT, n_leF, n_ltT, n_ltF, n_eqT, n_eqF, u2_ne, u2_at, u2_nj, r2_ne, r2_at, ↓i_neg1, m1_ne, m1_en, m1_lt, m1_le, m1_nlt, m1_nle, i_lits, true_and, and_true, sh, h2, h5, e, Nat.add_sub_cancel]
theorem ch_popB {q : List Bt} (sh : shCh T p) (h : ChC I p x) (hq : x.1.length ≤ 4) (hb : x.1 = none :: q) : ∃ I', f_ch_removeItem p ((I, T) : Mem) = some ((I', T) : Mem) ∧ Frm p 6 I I' ∧ ChC I' p (q, x.2) := by
  have sh' := sh
  unfold shCh at sh'
  obtain ⟨h1, h2, h3, h4, f, f4, h5, h6⟩ := h
  rw [hb] at h2 hq h6
  simp only [List.length_cons] at h2 hq
  have hx := h6 0 (by simp)
  simp only [List.map_cons, List.getElem_cons_zero, Nat.add_zero] at hx
  have e : nI f &&& nI 3 = nI (f % 4) := msk3 (by omega)
  have e2 : f % 4 = f := by omega
  rw [e2] at e hx
  have hx' : I (p + 5) f = m1 := hx
  have e52 := ch_pop52 (T := T) sh h2 h5 f4 (by omega)
  refine ⟨u2 (u2 I p 3 (nI ((f + 1) % 4))) p 4 (nI q.length), ?_, ?_, ?_⟩
  · unfold f_ch_removeItem
    simp (disch := omega) only [↓gI_t, ↓pI_t, ↓pZ_t, ↓ck_t, ↓aN_t, ↓cI_s, ↓cV_s, ↓cR_s, ↓onR_s, ↓onR_n, ↓nmI_t, ↓reduceIte, gA_t, aI_t, sI_t, aA_t, aB_t, sB_t, rmI_t, dvI_t, nI_add, pk_mul, pk_sub, nI_leI, nI_ltI, nI_eq, n_leT, n_leF, n_ltT, n_ltF, n_eqT, n_eqF, u2_ne, u2_at, u2_nj, r2_ne, r2_at, ↓i_neg1, m1_ne, m1_en, m1_lt, m1_le, m1_nlt, m1_nle, i_lits, true_and, and_true, sh', h2, h5, e, hx', e52]
  · exact Frm_u2 (Frm_u2 Frm_rf (by omega) (by omega)) (by omega) (by omega)
  · refine ⟨?_, ?_, ?_, ?_, (f + 1) % 4, by omega, ?_, ?_⟩
    · have : flatH (q, x.2) = flatH x := by simp [flatH, hb, flatQ]
      rw [this]
      exact Rng_cg h1 (fun a ha hb => by simp (disch := omega) only [u2_ne])
    · simp (disch := omega) only [↓gI_t, ↓pI_t, ↓pZ_t, ↓ck_t, ↓aN_t, ↓cI_s, ↓cV_s, ↓cR_s, ↓onR_s, ↓onR_n, ↓nmI_t, ↓reduceIte, gA_t, aI_t, sI_t, aA_t, aB_t, sB_t, rmI_t, dvI_t, nI_add, pk_mul, pk_sub, nI_leI, nI_ltI, nI_eq, n_leT, n_leF, n_ltT, n_ltF, n_eqT, n_eqF, u2_ne, u2_at, u2_nj, r2_ne, r2_at, ↓i_neg1, m1_ne, m1_en, m1_lt, m1_le, m1_nlt, m1_nle, i_lits, true_and, and_true]
    · simp (disch := omega) only [↓gI_t, ↓pI_t, ↓pZ_t, ↓ck_t, ↓aN_t, ↓cI_s, ↓cV_s, ↓cR_s, ↓onR_s, ↓onR_n, ↓nmI_t, ↓reduceIte, gA_t, aI_t, sI_t, aA_t, aB_t, sB_t, rmI_t, dvI_t, nI_add, pk_mul, pk_sub, nI_leI, nI_ltI, nI_eq, n_leT, n_leF, n_ltT, n_ltF, n_eqT, n_eqF, u2_ne, u2_at, u2_nj, r2_ne, r2_at, ↓i_neg1, m1_ne, m1_en, m1_lt, m1_le, m1_nlt, m1_nle, i_lits, true_and, and_true, h3]
    · simp (disch := omega) only [↓gI_t, ↓pI_t, ↓pZ_t, ↓ck_t, ↓aN_t, ↓cI_s, ↓cV_s, ↓cR_s, ↓onR_s, ↓onR_n, ↓nmI_t, ↓reduceIte, gA_t, aI_t, sI_t, aA_t, aB_t, sB_t, rmI_t, dvI_t, nI_add, pk_mul, pk_sub, nI_leI, nI_ltI, nI_eq, n_leT, n_leF, n_ltT, n_ltF, n_eqT, n_eqF, u2_ne, u2_at, u2_nj, r2_ne, r2_at, ↓i_neg1, m1_ne, m1_en, m1_lt, m1_le, m1_nlt, m1_nle, i_lits, true_and, and_true, h4]
    · simp (disch := omega) only [↓gI_t, ↓pI_t, ↓pZ_t, ↓ck_t, ↓aN_t, ↓cI_s, ↓cV_s, ↓cR_s, ↓onR_s, ↓onR_n, ↓nmI_t, ↓reduceIte, gA_t, aI_t, sI_t, aA_t, aB_t, sB_t, rmI_t, dvI_t, nI_add, pk_mul, pk_sub, nI_leI, nI_ltI, nI_eq, n_leT, n_leF, n_ltT, n_ltF, n_eqT, n_eqF, u2_ne, u2_at, u2_nj, r2_ne, r2_at, ↓i_neg1, m1_ne, m1_en, m1_lt, m1_le, m1_nlt, m1_nle, i_lits, true_and, and_true]
    · simp (disch := omega) only [u2_ne]
      exact RA_pop m3_4 h6
theorem ch_popR {r : Rec} {l : List Rec} {q : List Bt} (sh : shCh T p) (h : ChC I p x) (hq : x.1.length ≤ 4) (hb : x.1 = some (r :: l) :: q) (hl : l.length ≤ 4) : ∃ I', f_ch_removeItem p ((I, T) : Mem) = some ((I', T) : Mem) ∧ Frm p 6 I I' ∧ ChC I' p (if l = [] then q else some l :: q, x.2) := by
  have sh' := sh
  unfold shCh at sh'
  obtain ⟨h1, h2, h3, h4, f, f4, h5, h6⟩ := h
  have hfl : flatH x = r :: (l ++ flatQ q ++ x.2.1) := by simp [flatH, hb, flatQ]
  rw [hfl] at h1
  rw [hb] at h2 hq h6
  simp only [List.length_cons] at h2 hq
  simp only [List.map_cons] at h6
  have hx := h6 0 (by simp)
  simp only [List.getElem_cons_zero, Nat.add_zero] at hx
  have e : nI f &&& nI 3 = nI (f % 4) := msk3 (by omega)
  have e2 : f % 4 = f := by omega
  rw [e2] at e hx
  have hx' : I (p + 5) f = nI (l.length + 1) := hx
  have hnm : ¬ nI (l.length + 1) = m1 := m1_ne (by omega)
  obtain ⟨I1, e1, g1, r1⟩ := rc_pop m3_32 sh'.2.2.2.2.2.2.2.2 h1
  have eP : I1 p = I p := g1 p (by omega)
  have eQ : I1 (p + 5) = I (p + 5) := g1 _ (by omega)
  by_cases z : l = []
  · subst z
    have e52 := ch_pop52 (T := T) (I := u2 I1 (p + 5) f (nI 0)) (n := q.length) (f := f) sh (by simp (disch := omega) only [u2_ne, eP, h2]) (by simp (disch := omega) only [u2_ne, eP, h5]) f4 (by omega)
    have k9 := sh'.2.2.2.2.2.2.2.2.1
    refine ⟨u2 (u2 (u2 I1 (p + 5) f (nI 0)) p 3 (nI ((f + 1) % 4))) p 4 (nI q.length), ?_, ?_, ?_⟩
    · unfold f_ch_removeItem
      simp (disch := omega) only [↓gI_t, ↓pI_t, ↓pZ_t, ↓ck_t, ↓aN_t, ↓cI_s, ↓cV_s, ↓cR_s, ↓onR_s, ↓onR_n, ↓nmI_t, ↓reduceIte, gA_t, aI_t, sI_t, aA_t, aB_t, sB_t, rmI_t, dvI_t, nI_add, pk_mul, pk_sub, nI_leI, nI_ltI, nI_eq, n_leT, n_leF, n_ltT, n_ltF, n_eqT, n_eqF, u2_ne, u2_at, u2_nj, r2_ne, r2_at, ↓i_neg1, m1_ne, m1_en, m1_lt, m1_le, m1_nlt, m1_nle, i_lits, true_and, and_true, sh', k9, h2, h5, e, hx', hnm, e1, eP, eQ, List.length_nil, Nat.zero_add, Nat.sub_self, e52]
    · exact Frm_u2 (Frm_u2 (Frm_u2 (Frm_up g1 (by omega) (by omega)) (by omega) (by omega)) (by omega) (by omega)) (by omega) (by omega)
    · simp only [if_pos]
      refine ⟨?_, ?_, ?_, ?_, (f + 1) % 4, by omega, ?_, ?_⟩
      · have : flatH (q, x.2) = [] ++ flatQ q ++ x.2.1 := by simp [flatH]
        rw [this]
        exact Rng_cg r1 (fun a ha hb => by simp (disch := omega) only [u2_ne])
      · simp (disch := omega) only [↓gI_t, ↓pI_t, ↓pZ_t, ↓ck_t, ↓aN_t, ↓cI_s, ↓cV_s, ↓cR_s, ↓onR_s, ↓onR_n, ↓nmI_t, ↓reduceIte, gA_t, aI_t, sI_t, aA_t, aB_t, sB_t, rmI_t, dvI_t, nI_add, pk_mul, pk_sub, nI_leI, nI_ltI, nI_eq, n_leT, n_leF, n_ltT, n_ltF, n_eqT, n_eqF, u2_ne, u2_at, u2_nj, r2_ne, r2_at, ↓i_neg1, m1_ne, m1_en, m1_lt, m1_le, m1_nlt, m1_nle, i_lits, true_and, and_true]
      · simp (disch := omega) only [↓gI_t, ↓pI_t, ↓pZ_t, ↓ck_t, ↓aN_t, ↓cI_s, ↓cV_s, ↓cR_s, ↓onR_s, ↓onR_n, ↓nmI_t, ↓reduceIte, gA_t, aI_t, sI_t, aA_t, aB_t, sB_t, rmI_t, dvI_t, nI_add, pk_mul, pk_sub, nI_leI, nI_ltI, nI_eq, n_leT, n_leF, n_ltT, n_ltF, n_eqT, n_eqF, u2_ne, u2_at, u2_nj, r2_ne, r2_at, ↓i_neg1, m1_ne, m1_en, m1_lt, m1_le, m1_nlt, m1_nle, i_lits, true_and, and_true, eP, h3]
      · simp (disch := omega) only [↓gI_t, ↓pI_t, ↓pZ_t, ↓ck_t, ↓aN_t, ↓cI_s, ↓cV_s, ↓cR_s, ↓onR_s, ↓onR_n, ↓nmI_t, ↓reduceIte, gA_t, aI_t, sI_t, aA_t, aB_t, sB_t, rmI_t, dvI_t, nI_add, pk_mul, pk_sub, nI_leI, nI_ltI, nI_eq, n_leT, n_leF, n_ltT, n_ltF, n_eqT, n_eqF, u2_ne, u2_at, u2_nj, r2_ne, r2_at, ↓i_neg1, m1_ne, m1_en, m1_lt, m1_le, m1_nlt, m1_nle, i_lits, true_and, and_true, eP, h4]
      · simp (disch := omega) only [↓gI_t, ↓pI_t, ↓pZ_t, ↓ck_t, ↓aN_t, ↓cI_s, ↓cV_s, ↓cR_s, ↓onR_s, ↓onR_n, ↓nmI_t, ↓reduceIte, gA_t, aI_t, sI_t, aA_t, aB_t, sB_t, rmI_t, dvI_t, nI_add, pk_mul, pk_sub, nI_leI, nI_ltI, nI_eq, n_leT, n_leF, n_ltT, n_ltF, n_eqT, n_eqF, u2_ne, u2_at, u2_nj, r2_ne, r2_at, ↓i_neg1, m1_ne, m1_en, m1_lt, m1_le, m1_nlt, m1_nle, i_lits, true_and, and_true]
      · simp (disch := omega) only [u2_ne, u2_rw1, eQ]
        exact RA_popu m3_4 f4 h6 (by simp; omega) (fun y hy => upw_ne hy)
  · have zl : 0 < l.length := List.length_pos_iff.mpr z
    have k9 := sh'.2.2.2.2.2.2.2.2.1
    refine ⟨u2 I1 (p + 5) f (nI l.length), ?_, ?_, ?_⟩
    · unfold f_ch_removeItem
      simp (disch := omega) only [↓gI_t, ↓pI_t, ↓pZ_t, ↓ck_t, ↓aN_t, ↓cI_s, ↓cV_s, ↓cR_s, ↓onR_s, ↓onR_n, ↓nmI_t, ↓reduceIte, gA_t, aI_t, sI_t, aA_t, aB_t, sB_t, rmI_t, dvI_t, nI_add, pk_mul, pk_sub, nI_leI, nI_ltI, nI_eq, n_leT, n_leF, n_ltT, n_ltF, n_eqT, n_eqF, u2_ne, u2_at, u2_nj, r2_ne, r2_at, ↓i_neg1, m1_ne, m1_en, m1_lt, m1_le, m1_nlt, m1_nle, i_lits, true_and, and_true, sh', k9, h2, h5, e, hx', hnm, e1, eP, eQ, Nat.add_sub_cancel]
    · exact Frm_u2 (Frm_up g1 (by omega) (by omega)) (by omega) (by omega)
    · simp only [if_neg z]
      refine ⟨?_, ?_, ?_, ?_, f, f4, ?_, ?_⟩
      · have : flatH (some l :: q, x.2) = l ++ flatQ q ++ x.2.1 := by simp [flatH, flatQ]
        rw [this]
        exact Rng_cg r1 (fun a ha hb => by simp (disch := omega) only [u2_ne])
      · simp (disch := omega) only [↓gI_t, ↓pI_t, ↓pZ_t, ↓ck_t, ↓aN_t, ↓cI_s, ↓cV_s, ↓cR_s, ↓onR_s, ↓onR_n, ↓nmI_t, ↓reduceIte, gA_t, aI_t, sI_t, aA_t, aB_t, sB_t, rmI_t, dvI_t, nI_add, pk_mul, pk_sub, nI_leI, nI_ltI, nI_eq, n_leT, n_leF, n_ltT, n_ltF, n_eqT, n_eqF, u2_ne, u2_at, u2_nj, r2_ne, r2_at, ↓i_neg1, m1_ne, m1_en, m1_lt, m1_le, m1_nlt, m1_nle, i_lits, true_and, and_true, eP, h2, List.length_cons]
      · simp (disch := omega) only [↓gI_t, ↓pI_t, ↓pZ_t, ↓ck_t, ↓aN_t, ↓cI_s, ↓cV_s, ↓cR_s, ↓onR_s, ↓onR_n, ↓nmI_t, ↓reduceIte, gA_t, aI_t, sI_t, aA_t, aB_t, sB_t, rmI_t, dvI_t, nI_add, pk_mul, pk_sub, nI_leI, nI_ltI, nI_eq, n_leT, n_leF, n_ltT, n_ltF, n_eqT, n_eqF, u2_ne, u2_at, u2_nj, r2_ne, r2_at, ↓i_neg1, m1_ne, m1_en, m1_lt, m1_le, m1_nlt, m1_nle, i_lits, true_and, and_true, eP, h3]
      · simp (disch := omega) only [↓gI_t, ↓pI_t, ↓pZ_t, ↓ck_t, ↓aN_t, ↓cI_s, ↓cV_s, ↓cR_s, ↓onR_s, ↓onR_n, ↓nmI_t, ↓reduceIte, gA_t, aI_t, sI_t, aA_t, aB_t, sB_t, rmI_t, dvI_t, nI_add, pk_mul, pk_sub, nI_leI, nI_ltI, nI_eq, n_leT, n_leF, n_ltT, n_ltF, n_eqT, n_eqF, u2_ne, u2_at, u2_nj, r2_ne, r2_at, ↓i_neg1, m1_ne, m1_en, m1_lt, m1_le, m1_nlt, m1_nle, i_lits, true_and, and_true, eP, h4]
      · simp (disch := omega) only [↓gI_t, ↓pI_t, ↓pZ_t, ↓ck_t, ↓aN_t, ↓cI_s, ↓cV_s, ↓cR_s, ↓onR_s, ↓onR_n, ↓nmI_t, ↓reduceIte, gA_t, aI_t, sI_t, aA_t, aB_t, sB_t, rmI_t, dvI_t, nI_add, pk_mul, pk_sub, nI_leI, nI_ltI, nI_eq, n_leT, n_leF, n_ltT, n_ltF, n_eqT, n_eqF, u2_ne, u2_at, u2_nj, r2_ne, r2_at, ↓i_neg1, m1_ne, m1_en, m1_lt, m1_le, m1_nlt, m1_nle, i_lits, true_and, and_true, eP, h5]
      · simp (disch := omega) only [u2_ne, u2_rw1, eQ, List.map_cons]
        exact RA_hd m3_4 f4 h6 (by simp; omega) upw_eq (fun y hy => upw_ne hy)
theorem ch_wipe (sh : shCh T p) (h : I (p + 1) 3 = nI 31) : ∃ I', f_ch_wipe p ((I, T) : Mem) = some ((I', T) : Mem) ∧ Frm p 6 I I' ∧ ChC I' p ([], [], 0) := by
  have sh' := sh
  unfold shCh at sh'
  obtain ⟨I1, e1, g1, r1⟩ := rc_wipe m3_32 sh'.2.2.2.2.2.2.2.2 h
  refine ⟨u2 (u2 (u2 (u2 I1 p 3 (nI 0)) p 4 (nI 0)) p 5 (nI 0)) p 6 (nI 0), ?_, ?_, ?_⟩
  · unfold f_ch_wipe
    have := sh'.2.2.2.2.2.2.2.2.1
    simp (disch := omega) only [↓gI_t, ↓pI_t, ↓pZ_t, ↓ck_t, ↓aN_t, ↓cI_s, ↓cV_s, ↓cR_s, ↓onR_s, ↓onR_n, ↓nmI_t, ↓reduceIte, gA_t, aI_t, sI_t, aA_t, aB_t, sB_t, rmI_t, dvI_t, nI_add, pk_mul, pk_sub, nI_leI, nI_ltI, nI_eq, n_leT, n_leF, n_ltT, n_ltF, n_eqT, n_eqF, u2_ne, u2_at, u2_nj, r2_ne, r2_at, ↓i_neg1, m1_ne, m1_en, m1_lt, m1_le, m1_nlt, m1_nle, i_lits, true_and, and_true, sh', this, e1]
  · exact Frm_u2 (Frm_u2 (Frm_u2 (Frm_u2 (Frm_up g1 (by omega) (by omega)) (by omega) (by omega)) (by omega) (by omega)) (by omega) (by omega)) (by omega) (by omega)
  · refine ⟨?_, ?_, ?_, ?_, 0, by omega, ?_, RA_nil⟩
    · exact Rng_cg r1 (fun a ha hb => by simp (disch := omega) only [u2_ne])
    · simp (disch := omega) only [↓gI_t, ↓pI_t, ↓pZ_t, ↓ck_t, ↓aN_t, ↓cI_s, ↓cV_s, ↓cR_s, ↓onR_s, ↓onR_n, ↓nmI_t, ↓reduceIte, gA_t, aI_t, sI_t, aA_t, aB_t, sB_t, rmI_t, dvI_t, nI_add, pk_mul, pk_sub, nI_leI, nI_ltI, nI_eq, n_leT, n_leF, n_ltT, n_ltF, n_eqT, n_eqF, u2_ne, u2_at, u2_nj, r2_ne, r2_at, ↓i_neg1, m1_ne, m1_en, m1_lt, m1_le, m1_nlt, m1_nle, i_lits, true_and, and_true]
      rfl
    · simp (disch := omega) only [↓gI_t, ↓pI_t, ↓pZ_t, ↓ck_t, ↓aN_t, ↓cI_s, ↓cV_s, ↓cR_s, ↓onR_s, ↓onR_n, ↓nmI_t, ↓reduceIte, gA_t, aI_t, sI_t, aA_t, aB_t, sB_t, rmI_t, dvI_t, nI_add, pk_mul, pk_sub, nI_leI, nI_ltI, nI_eq, n_leT, n_leF, n_ltT, n_ltF, n_eqT, n_eqF, u2_ne, u2_at, u2_nj, r2_ne, r2_at, ↓i_neg1, m1_ne, m1_en, m1_lt, m1_le, m1_nlt, m1_nle, i_lits, true_and, and_true]
      rfl
    · simp (disch := omega) only [↓gI_t, ↓pI_t, ↓pZ_t, ↓ck_t, ↓aN_t, ↓cI_s, ↓cV_s, ↓cR_s, ↓onR_s, ↓onR_n, ↓nmI_t, ↓reduceIte, gA_t, aI_t, sI_t, aA_t, aB_t, sB_t, rmI_t, dvI_t, nI_add, pk_mul, pk_sub, nI_leI, nI_ltI, nI_eq, n_leT, n_leF, n_ltT, n_ltF, n_eqT, n_eqF, u2_ne, u2_at, u2_nj, r2_ne, r2_at, ↓i_neg1, m1_ne, m1_en, m1_lt, m1_le, m1_nlt, m1_nle, i_lits, true_and, and_true]
    · simp (disch := omega) only [↓gI_t, ↓pI_t, ↓pZ_t, ↓ck_t, ↓aN_t, ↓cI_s, ↓cV_s, ↓cR_s, ↓onR_s, ↓onR_n, ↓nmI_t, ↓reduceIte, gA_t, aI_t, sI_t, aA_t, aB_t, sB_t, rmI_t, dvI_t, nI_add, pk_mul, pk_sub, nI_leI, nI_ltI, nI_eq, n_leT, n_leF, n_ltT, n_ltF, n_eqT, n_eqF, u2_ne, u2_at, u2_nj, r2_ne, r2_at, ↓i_neg1, m1_ne, m1_en, m1_lt, m1_le, m1_nlt, m1_nle, i_lits, true_and, and_true]
theorem ChC_mask (h : ChC I p x) : I (p + 1) 3 = nI 31 := h.1.2.1
end
