/-! THE CLASS: a tick -/
section
variable {T : Tl} {I I' : Iw} {E : Env} {D : Dy} {g : Nat → Kst} {Q : Slow} {o i lo ag k : Nat}
theorem CT_bg (hE : okE E) (h : CT E D g Q I T) (b : Bool) : CT E D g (qP Q, qO Q, qR Q, qV Q, qC Q, qF Q, b) (u2 I 10 14 (nI (b01 b))) T ∧ FX T I (u2 I 10 14 (nI (b01 b))) := by
  obtain ⟨h1, h2, h3, h4, h5, h6, h7, h8, h9, h10, h11⟩ := h
  have n4 := hE.1
  have f : ∀ a, a ≠ 10 → u2 I 10 14 (nI (b01 b)) a = I a := fun a ha => u2_ne ha
  obtain ⟨v1, v2, v3, v4, v5, v6, v7⟩ := h11
  refine ⟨⟨CfC_cg h1 n4 (u2_nj rfl (by omega)) (f 11 (by omega)) (fun o ho j _ _ => by rw [f _ (by omega)]), ChsC_cg h2 (fun a _ _ => f a (by omega)), InsC_cg h3 (fun a _ _ _ => f a (by omega)), KsC_cg h4 (fun a _ _ _ _ => f a (by omega)), PeC_cg h5 (fun a _ _ _ _ => f a (by omega)), PgC_cg hE h6 (fun o i _ _ => by rw [f _ (by omega)]), StC_cg h7 (fun o _ j _ _ => by rw [f _ (by omega)]), ?_, NpC_cg h9 (fun a _ _ => f a (by omega)), LaC_cg h10 (f 18 (by omega)) (fun a _ => f a (by omega)), ?_⟩, fun a _ _ _ => f a (by omega)⟩
  · obtain ⟨s1, s2, s3, s4⟩ := h8
    exact ⟨(u2_nj rfl (by omega)).trans s1, (u2_nj rfl (by omega)).trans s2, (u2_nj rfl (by omega)).trans s3, fun hq hw => (u2_nj rfl (by omega)).trans (s4 hq hw)⟩
  · refine ⟨fun o ho => KyC_cg (v1 o ho) (fun a _ _ => f a (by omega)), fun o i ho hi => by rw [f _ (by omega)]; exact v2 o i ho hi, (u2_nj rfl (by omega)).trans v3, (u2_nj rfl (by omega)).trans v4, (u2_nj rfl (by omega)).trans v5, (u2_nj rfl (by omega)).trans v6, u2_at rfl rfl⟩
theorem grow_loop (sh : shSm T) (hE : okE E) (hI : Inv E D) (hA : ∀ c, (dC D c).2.2 < 1000000) : ∀ (d n c : Nat) (I : Iw), c + d = 45 → d < n → CT E (zsC D (fun x => if x < c then grow (eG E) (eC E) (dC D x) else dC D x)) g Q I T → ∃ I', f_sm_performTick_15 n 10 17 (nI 45) (nI c) ((I, T) : Mem) = (gI 11 5 ((I', T) : Mem) 10 fun v1 => f_sm_performTick_48 FU 10 (v1 + (1 : Int32)) ((I', T) : Mem)) ∧ CT E (growA E D) g Q I' T ∧ FX T I I'
  | d, 0, c, I, _, hn, _ => by omega
  | 0, n + 1, c, I, hc, hn, hC => by
    refine ⟨I, ?_, ?_, FX_rf⟩
    · show (if nI 45 ≤ nI c then _ else _) = _
      rw [if_pos ((nI_leI (by omega) (by omega)).mpr (by omega))]
    · have : (fun x => if x < c then grow (eG E) (eC E) (dC D x) else dC D x) = fun x => grow (eG E) (eC E) (dC D x) := funext fun x => by
        by_cases hx : x < c
        · rw [if_pos hx]
        · rw [if_neg hx]
          have hz := hI.2.1 x (fun o i j v e => by have := lin45 hE v; omega)
          rw [grow_nil hz.2]
      rw [this] at hC
      exact hC
  | d + 1, n + 1, c, I, hc, hn, hC => by
    have hl45 : c < 45 := by omega
    have kch := sh.ch hl45
    have hch := hC.2.1 c hl45
    simp only [gs_C, Nat.lt_irrefl, if_false] at hch
    have hok : chOK (eS E) (eC E) (dC D c) := by
      by_cases hz : ∃ o i j, vC E o i j ∧ c = lin o i j
      · obtain ⟨o, i, j, v, rfl⟩ := hz
        exact (hI.1 o i j v).1
      · have h0 := hI.2.1 c (fun o i j v e => hz ⟨o, i, j, v, e⟩)
        exact ⟨by rw [h0.1]; simp, by rw [h0.2]; simp, fun l hl => by rw [h0.1] at hl; cases hl⟩
    obtain ⟨I1, e1, f1, r1⟩ := ch_growOlder (T := T) kch hC.1.2.1 hch hok hE.2.2.2.2.2.2.2.1.2 hE.2.2.2.2.2.2.2.2.1.2 hE.2.2.2.2.2.2.2.2.2.1.2 (hA c)
    obtain ⟨C1, F1⟩ := CT_ch hE hC hl45 f1 r1
    have hnew : zsC (zsC D (fun x => if x < c then grow (eG E) (eC E) (dC D x) else dC D x)) (upw (dC (zsC D (fun x => if x < c then grow (eG E) (eC E) (dC D x) else dC D x))) c (grow (eG E) (eC E) (dC D c))) = zsC D (fun x => if x < c + 1 then grow (eG E) (eC E) (dC D x) else dC D x) := by
      have : upw (dC (zsC D (fun x => if x < c then grow (eG E) (eC E) (dC D x) else dC D x))) c (grow (eG E) (eC E) (dC D c)) = fun x => if x < c + 1 then grow (eG E) (eC E) (dC D x) else dC D x := funext fun x => by
        simp only [gs_C]
        by_cases hz : x = c
        · rw [hz, upw_eq, if_pos (by omega)]
        · rw [upw_ne hz]
          by_cases hy : x < c
          · rw [if_pos hy, if_pos (by omega)]
          · rw [if_neg hy, if_neg (by omega)]
      rw [this]
      rfl
    rw [hnew] at C1
    obtain ⟨I2, e2, C2, F2⟩ := grow_loop sh hE hI hA d n (c + 1) I1 (by omega) (by omega) C1
    have k17 := sh.2.2.2.2.2.2.2.2.2.1
    have kl17 := sh.2.2.2.2.2.2.2.2.2.2.1
    have kr17 := sh.2.2.2.2.2.2.2.2.2.2.2.2.2.2.1 c hl45
    have kch1 := kch.1
    refine ⟨I2, ?_, C2, FX_tr F1 F2⟩
    show (if nI 45 ≤ nI c then _ else _) = _
    rw [if_neg (fun w => by have := (nI_leI (by omega) (by omega)).mp w; omega)]
    rw [aA_t (by omega) (by omega) (by omega), kr17, onR_s, ck_t kch1, e1, cV_s]
    show f_sm_performTick_15 n 10 17 (nI 45) (nI c + 1) ((I1, T) : Mem) = _
    rw [show nI c + (1 : Int32) = nI (c + 1) from nI_1 c]
    exact e2
theorem inst_loop (hE : okE E) (hA : okA E) (hlo : lo ≤ eT E) (hlo2 : eT E - lo < 40000) (hT : eT E < 2 ^ 30) (ho : o ≤ eN E + 1) (k48 : Nat → Int32 → Mem → Option Mem) : ∀ (d n i : Nat) (D : Dy) (g : Nat → Kst) (I : Iw) (T : Tl), i + d = eP E o → d < n → shSm T → 550 ≤ tN T → Inv E D → Bd E D lo ag → CT E D g Q I T → (∀ s, dN D s + 18 * d < 2 ^ 30) → ∃ D' g' I' T', f_sm_performTick_54 k48 n 10 (nI o) (nI i) ((I, T) : Mem) = k48 10 (nI o + (-1 : Int32)) ((I', T') : Mem) ∧ D' = (List.range' i d).foldl (fun D j => works E o j (eR E) D) D ∧ CT E D' g' Q I' T' ∧ FX T I I' ∧ Ext T T'
  | d, 0, i, D, g, I, T, _, hn, _, _, _, _, _, _ => by omega
  | 0, n + 1, i, D, g, I, T, hi, hn, sh, h550, hI, hB, hC, hN => by
    have p3 := hE.p3 ho
    have n4 := hE.1
    have e := sm_sizeOf (T := T) (o := o) sh hC.1 n4 (by omega)
    rw [if_pos ho] at e
    refine ⟨D, g, I, T, ?_, rfl, hC, FX_rf, Ext_rf⟩
    have ksm := sh.1
    show ck ((I, T) : Mem) 10 11 _ = _
    rw [ck_t ksm, e, cI_s]
    exact if_pos ((nI_leI (by omega) (by omega)).mpr (by omega))
  | d + 1, n + 1, i, D, g, I, T, hi, hn, sh, h550, hI, hB, hC, hN => by
    have p3 := hE.p3 ho
    have n4 := hE.1
    have hs : vS E o i := ⟨ho, by omega⟩
    have e := sm_sizeOf (T := T) (o := o) sh hC.1 n4 (by omega)
    rw [if_pos ho] at e
    obtain ⟨g1, I1, T1, e1, C1, F1, X1⟩ := smWork_code (T := T) sh h550 hE hA hlo hlo2 hT hs hI hB hC (by have := hN (spt o i); omega)
    obtain ⟨j1, j2⟩ := Bd_works hE hs hlo (eR E) hI hB
    have jN := fun s => works_N hE hs s (eR E) D hI
    have r5 := hE.2.2.2.2.2.2.2.2.2.2.1.2
    obtain ⟨D2, g2, I2, T2, e2, hD2, C2, F2, X2⟩ := inst_loop hE hA hlo hlo2 hT ho k48 d n (i + 1) _ g1 I1 T1 (by omega) (by omega) (X1.sm h550 sh) (Nat.le_trans h550 X1.2.2.1) j1 j2 C1 (fun s => by have := hN s; have := jN s; omega)
    refine ⟨D2, g2, I2, T2, ?_, ?_, C2, FX_ext F1 X1 F2, Ext_tr X1 X2⟩
    · have ksm := sh.1
      show ck ((I, T) : Mem) 10 11 _ = _
      rw [ck_t ksm, e, cI_s]
      refine (if_neg (fun w => by have := (nI_leI (by omega) (by omega)).mp w; omega)).trans ?_
      rw [ck_t ksm, e1, cV_s, show nI i + (1 : Int32) = nI (i + 1) from nI_1 i]
      exact e2
    · rw [hD2, List.range'_succ, List.foldl_cons]
theorem workO_fold : ∀ (m : Nat) (D : Dy), workO E o m D = (List.range m).foldl (fun D j => works E o j (eR E) D) D
  | 0, D => rfl
  | m + 1, D => by
    rw [List.range_succ, List.foldl_append, ← workO_fold m D]
    rfl
/-- the operators from m - 1 down -/
theorem oper_loop (hE : okE E) (hA : okA E) (hlo : lo ≤ eT E) (hlo2 : eT E - lo < 40000) (hT : eT E < 2 ^ 30) : ∀ (m n : Nat) (D : Dy) (g : Nat → Kst) (I : Iw) (T : Tl), m ≤ eN E + 2 → m < n → shSm T → 550 ≤ tN T → Inv E D → Bd E D lo ag → CT E D g Q I T → (∀ s, dN D s + 54 * m < 2 ^ 30) → ∃ g' I' T', f_sm_performTick_48 n 10 (match m with
    | 0 => (-1 : Int32)
    | k + 1 => nI k) ((I, T) : Mem) = (gI 11 12 ((I', T') : Mem) 10 fun v1 => if v1 = (0 : Int32) then (f_sm_performTick_99 10 ((I', T') : Mem)) else gI 11 13 ((I', T') : Mem) 10 fun v2 => if v2 = (0 : Int32) then (ck ((I', T') : Mem) 10 11 <| cV (f_sm_completeCheckpoint 10 ((I', T') : Mem)) fun M3 => f_sm_performTick_99 10 M3) else f_sm_performTick_99 10 ((I', T') : Mem)) ∧ CT E (workA E m D) g' Q I' T' ∧ FX T I I' ∧ Ext T T'
  | m, 0, D, g, I, T, _, hn, _, _, _, _, _, _ => by omega
  | 0, n + 1, D, g, I, T, hm, hn, sh, h550, hI, hB, hC, hN => by
    refine ⟨g, I, T, ?_, hC, FX_rf, Ext_rf⟩
    show (if (-1 : Int32) < 0 then _ else _) = _
    rw [if_pos (by decide)]
  | m + 1, n + 1, D, g, I, T, hm, hn, sh, h550, hI, hB, hC, hN => by
    have ho : m ≤ eN E + 1 := by omega
    have p3 := hE.p3 ho
    obtain ⟨D1, g1, I1, T1, e1, hD1, C1, F1, X1⟩ := inst_loop hE hA hlo hlo2 hT ho (f_sm_performTick_48 n) (eP E m) FU 0 D g I T (by omega) (by unfold FU; omega) sh h550 hI hB hC (fun s => by have := hN s; omega)
    have hD1' : D1 = workO E m (eP E m) D := by
      rw [hD1, workO_fold, List.range_eq_range']
    rw [hD1'] at C1
    obtain ⟨j1, j2⟩ := workO_ind hE ho (fun D' => Bd E D' lo ag) (fun i D' hi hI' hB' => (Bd_works hE ⟨ho, hi⟩ hlo _ hI' hB').2) (eP E m) D (Nat.le_refl _) hI hB
    have jN := fun s => workO_N hE ho s (eP E m) D (Nat.le_refl _) hI
    obtain ⟨g2, I2, T2, e2, C2, F2, X2⟩ := oper_loop hE hA hlo hlo2 hT m n _ g1 I1 T1 (by omega) (by omega) (X1.sm h550 sh) (Nat.le_trans h550 X1.2.2.1) j1 j2 C1 (fun s => by have := hN s; have := jN s; omega)
    refine ⟨g2, I2, T2, ?_, C2, FX_ext F1 X1 F2, Ext_tr X1 X2⟩
    show (if nI m < (0 : Int32) then _ else _) = _
    have n4 := hE.1
    rw [if_neg (nI_pos (by omega))]
    refine Eq.trans ?_ e2
    refine e1.trans ?_
    cases m with
    | zero => rfl
    | succ m =>
      show f_sm_performTick_48 n 10 (nI (m + 1) + (-1)) _ = _
      rw [pk_m1]
-- the end of a checkpoint
theorem pendC_loop {a p : Nat} {r : Nat → Nat} (sh : shOp T a) (hp : p ≤ 3) (h9 : ∀ I' : Iw, I' a = I a → I' a 9 = nI p) : ∀ (d n i : Nat) (I1 : Iw), i + d = p → d < n → I1 a = I a → (∀ j, j < p → I1 (a + 18 + 5 * j) 5 = nI (r j)) → ∃ I', f_op_completePending_13 n a (nI i) ((I1, T) : Mem) = some ((I', T) : Mem) ∧ (∀ j, i ≤ j → j < p → I' (a + 18 + 5 * j) 6 = nI (r j)) ∧ (∀ j, (j < i ∨ p ≤ j) → I' (a + 18 + 5 * j) = I1 (a + 18 + 5 * j)) ∧ (∀ j c, c ≠ 6 → I' (a + 18 + 5 * j) c = I1 (a + 18 + 5 * j) c) ∧ ∀ x, (∀ j, j < 3 → x ≠ a + 18 + 5 * j) → I' x = I1 x
  | d, 0, i, I1, _, hn, _, _ => by omega
  | 0, n + 1, i, I1, hi, hn, ha, h5 => by
    have h := h9 I1 ha
    refine ⟨I1, ?_, fun j h1 h2 => by omega, fun _ _ => rfl, fun _ _ _ => rfl, fun _ _ => rfl⟩
    have k1 := sh.1
    unfold f_op_completePending_13
    simp (disch := omega) only [↓gI_t, ↓pI_t, ↓pZ_t, ↓ck_t, ↓aN_t, ↓cI_s, ↓cV_s, ↓cR_s, ↓onR_s, ↓onR_n, ↓nmI_t, ↓reduceIte, gA_t, aI_t, sI_t, aA_t, aB_t, sB_t, rmI_t, dvI_t, nI_add, pk_mul, pk_sub, nI_leI, nI_ltI, nI_eq, n_leT, n_leF, n_ltT, n_ltF, n_eqT, n_eqF, u2_ne, u2_at, u2_nj, r2_ne, r2_at, ↓i_neg1, m1_ne, m1_en, m1_lt, m1_le, m1_nlt, m1_nle, i_lits, true_and, and_true, k1, h]
  | d + 1, n + 1, i, I1, hi, hn, ha, h5 => by
    have h := h9 I1 ha
    obtain ⟨I2, hI2⟩ : ∃ I2, I2 = u2 I1 (a + 18 + 5 * i) 6 (nI (r i)) := ⟨_, rfl⟩
    obtain ⟨I3, e, q1, q2, q3, q4⟩ := pendC_loop sh hp h9 d n (i + 1) I2 (by omega) (by omega) (by rw [hI2, u2_ne (by omega)]; exact ha) (fun j hj => by
      rw [hI2]
      by_cases hz : j = i
      · rw [hz, u2_nj rfl (by omega)]; exact h5 i (by omega)
      · rw [u2_ne (by omega)]; exact h5 j hj)
    have k1 := sh.1
    have k2 := sh.2.1
    have k3 := sh.2.2.1
    have k4 := sh.2.2.2.1
    have k5 := sh.2.2.2.2.1 i (by omega)
    have k6 := (sh.inn (i := i) (by omega)).1
    have h5i := h5 i (by omega)
    refine ⟨I3, ?_, fun j h1 h2 => ?_, fun j hj => ?_, fun j c hc => ?_, fun x hx => ?_⟩
    · unfold f_op_completePending_13 f_op_completePending_49
      simp (disch := omega) only [↓gI_t, ↓pI_t, ↓pZ_t, ↓ck_t, ↓aN_t, ↓cI_s, ↓cV_s, ↓cR_s, ↓onR_s, ↓onR_n, ↓nmI_t, ↓reduceIte, gA_t, aI_t, sI_t, aA_t, aB_t, sB_t, rmI_t, dvI_t, nI_add, pk_mul, pk_sub, nI_leI, nI_ltI, nI_eq, n_leT, n_leF, n_ltT, n_ltF, n_eqT, n_eqF, u2_ne, u2_at, u2_nj, r2_ne, r2_at, ↓i_neg1, m1_ne, m1_en, m1_lt, m1_le, m1_nlt, m1_nle, i_lits, true_and, and_true, k1, h, k2, k3, k4, k5, k6, h5i, ← hI2, e]
    · by_cases hz : j = i
      · rw [hz, q2 i (by omega), hI2]
        exact u2_at rfl rfl
      · exact q1 j (by omega) h2
    · rw [q2 j (by omega), hI2, u2_ne (by omega)]
    · rw [q3 j c hc, hI2]
      by_cases hz : j = i
      · rw [hz]; exact u2_nj rfl hc
      · rw [u2_ne (by omega)]
    · rw [q4 x hx, hI2, u2_ne (hx i (by omega))]
theorem pendC_code {a p : Nat} {r : Nat → Nat} {f : Kst} (sh : shOp T a) (hp : p ≤ 3) (h9 : I a 9 = nI p) (hf : KyC I (a + 5) f) (h5 : ∀ j, j < p → I (a + 18 + 5 * j) 5 = nI (r j)) : ∃ I', f_op_completePending a ((I, T) : Mem) = some ((I', T) : Mem) ∧ KyC I' (a + 8) f ∧ (∀ j, j < p → I' (a + 18 + 5 * j) 6 = nI (r j)) ∧ (∀ j, p ≤ j → j < 3 → I' (a + 18 + 5 * j) = I (a + 18 + 5 * j)) ∧ (∀ j c, j < 3 → c ≠ 6 → I' (a + 18 + 5 * j) c = I (a + 18 + 5 * j) c) ∧ ∀ x, (∀ j, j < 3 → x ≠ a + 18 + 5 * j) → (x < a + 8 ∨ a + 11 ≤ x) → I' x = I x := by
  have ky5 := sh.2.2.2.2.2.2.2.2.2.2.2.1
  have ky8 := sh.2.2.2.2.2.2.2.2.2.2.2.2.1
  obtain ⟨I1, e1, f1, c1⟩ := ky_copyAll (T := T) (a := a + 8) (b := a + 5) ky8 ky5 (by omega) hf
  have ha : I1 a = I a := f1 a (by omega)
  have hj : ∀ j, I1 (a + 18 + 5 * j) = I (a + 18 + 5 * j) := fun j => f1 _ (by omega)
  obtain ⟨I2, e2, q1, q2, q3, q4⟩ := pendC_loop (I := I) (r := r) sh hp (fun I' h => by rw [h]; exact h9) p FU 0 I1 (by omega) (by unfold FU; omega) ha (fun j hj' => by rw [hj]; exact h5 j hj')
  have k1 := sh.1
  have k2 := sh.2.2.2.2.2.2.1
  have k3 := sh.2.2.2.2.2.2.2.1
  have k4 := ky8.1
  refine ⟨I2, ?_, KyC_cg c1 (fun x _ _ => q4 x (fun j _ => by omega)), fun j h => q1 j (by omega) h, fun j h1 h2 => by rw [q2 j (by omega), hj], fun j c h1 h2 => by rw [q3 j c h2, hj], fun x h1 h2 => by rw [q4 x h1, f1 x (by omega)]⟩
  unfold f_op_completePending
  simp (disch := omega) only [↓gI_t, ↓pI_t, ↓pZ_t, ↓ck_t, ↓aN_t, ↓cI_s, ↓cV_s, ↓cR_s, ↓onR_s, ↓onR_n, ↓nmI_t, ↓reduceIte, gA_t, aI_t, sI_t, aA_t, aB_t, sB_t, rmI_t, dvI_t, nI_add, pk_mul, pk_sub, nI_leI, nI_ltI, nI_eq, n_leT, n_leF, n_ltT, n_ltF, n_eqT, n_eqF, u2_ne, u2_at, u2_nj, r2_ne, r2_at, ↓i_neg1, m1_ne, m1_en, m1_lt, m1_le, m1_nlt, m1_nle, i_lits, true_and, and_true, k1, k2, k3, k4, e1, e2]
end
