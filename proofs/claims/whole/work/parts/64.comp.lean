/-! THE CLASS: the end of a checkpoint; a tick whole -/
section
variable {T : Tl} {I I' : Iw} {E : Env} {D : Dy} {g : Nat → Kst} {Q : Slow} {o i lo ag k : Nat}
/-- while the operators are gone through, m of them done -/
def Qm (Q : Slow) (D : Dy) (m : Nat) (sv : Nat → Kst) (sc : Nat → Nat) (cp : Nat) : Slow := (qP Q, qP Q, fun s => if s / 3 < m then dR D s else sc s, fun o => if o < m then dG D o else sv o, cp, qF Q, true)
theorem comp_loop (sh : shSm T) (hE : okE E) (hg : ∀ o, o ≤ eN E + 1 → g o = dG D o) (hu : ∀ s, unus E s → dR D s = 0 ∧ qR Q s = 0) (cp : Nat) : ∀ (d n m : Nat) (I : Iw), m + d = eN E + 2 → d < n → CT E (comD D) g (Qm Q D m (qV Q) (qR Q) cp) I T → (∀ o i, vS E o i → I (20 + 33 * o + 18 + 5 * i) 5 = nI (dR D (spt o i))) → ∃ I', f_sm_completeCheckpoint_23 n 10 (nI m) ((I, T) : Mem) = some ((I', T) : Mem) ∧ CT E (comD D) g (Qm Q D (eN E + 2) (qV Q) (qR Q) cp) I' T ∧ FX T I I'
  | d, 0, m, I, _, hn, _, _ => by omega
  | 0, n + 1, m, I, hm, hn, hC, h5 => by
    have hm' : m = eN E + 2 := by omega
    have n4 := hE.1
    have hst := hC.1.1
    refine ⟨I, ?_, by rw [← hm']; exact hC, FX_rf⟩
    have ksm := sh.1
    unfold f_sm_completeCheckpoint_23
    simp (disch := omega) only [↓gI_t, ↓pI_t, ↓pZ_t, ↓ck_t, ↓aN_t, ↓cI_s, ↓cV_s, ↓cR_s, ↓onR_s, ↓onR_n, ↓nmI_t, ↓reduceIte, gA_t, aI_t, sI_t, aA_t, aB_t, sB_t, rmI_t, dvI_t, nI_add, pk_mul, pk_sub, nI_leI, nI_ltI, nI_eq, n_leT, n_leF, n_ltT, n_ltF, n_eqT, n_eqF, u2_ne, u2_at, u2_nj, r2_ne, r2_at, ↓i_neg1, m1_ne, m1_en, m1_lt, m1_le, m1_nlt, m1_nle, i_lits, true_and, and_true, ksm, hst]
  | d + 1, n + 1, m, I, hm, hn, hC, h5 => by
    have n4 := hE.1
    have hst := hC.1.1
    have ho : m ≤ eN E + 1 := by omega
    have p3 := hE.p3 ho
    have e1 := sm_opAt (T := T) (o := m) sh hC.1 n4 (by omega)
    rw [if_pos ho] at e1
    have kop := sh.op (o := m) (by omega)
    obtain ⟨c1, c2, c3, c4⟩ := hC.1.2.2.2 m ho
    obtain ⟨I1, e2, q1, q2, q3, q4, q5⟩ := pendC_code (T := T) (r := fun j => dR D (spt m j)) kop p3 c4 (hC.2.2.2.2.1 m (by omega)) (fun j hj => h5 m j ⟨ho, hj⟩)
    have kop1 := kop.1
    have ksm := sh.1
    have hrow : ∀ x, (x < 20 + 33 * m + 8 ∨ 20 + 33 * m + 11 ≤ x) → ¬ (∃ j, j < 3 ∧ x = 20 + 33 * m + 18 + 5 * j) → I1 x = I x := fun x h1 h2 => q5 x (fun j hj hx => h2 ⟨j, hj, hx⟩) h1
    have hlow : ∀ x, (x < 20 + 33 * m + 8 ∨ (20 + 33 * m + 11 ≤ x ∧ x < 20 + 33 * m + 18) ∨ 20 + 33 * m + 33 ≤ x) → I1 x = I x := fun x h => hrow x (by omega) (fun w => by
      obtain ⟨j, hj, hx⟩ := w
      omega)
    have hcol : ∀ o i, o < 6 → i < 3 → ∀ j, j ≠ 6 → I1 (20 + 33 * o + 18 + 5 * i) j = I (20 + 33 * o + 18 + 5 * i) j := fun o i ho' hi' j hj => by
      by_cases hz : o = m
      · rw [hz]; exact q4 i j hi' hj
      · have := adr_in ho' hi' (20 + 33 * o + 18 + 5 * i) (by omega) (by omega)
        have hb := adr_op (o := o) hi' m
        have hb2 : 20 + 33 * o + 18 + 5 * i < 20 + 33 * m ∨ 20 + 33 * m + 33 ≤ 20 + 33 * o + 18 + 5 * i := by omega
        rw [hlow _ (by omega)]
    have hCT : CT E (comD D) g (Qm Q D (m + 1) (qV Q) (qR Q) cp) I1 T := by
      obtain ⟨h1, h2, h3, h4, h5', h6, h7, h8, h9, h10, h11⟩ := hC
      refine ⟨CfC_cg h1 n4 (by rw [hlow 10 (by omega)]) (hlow 11 (by omega)) (fun o' ho' j _ _ => by rw [hlow _ (by omega)]), ChsC_cg h2 (fun a _ _ => hlow a (by omega)), fun o' i' ho' hi' => InC_cg (h3 o' i' ho' hi') same5 (fun j hj => hcol o' i' ho' hi' j (by omega)) (fun a ha hb => ?_), KsC_cg h4 (fun a _ _ _ _ => hlow a (by omega)), PeC_cg h5' (fun a _ _ _ _ => hlow a (by omega)), PgC_cg hE h6 (fun o' i' ho' hi' => hcol o' i' ho' hi' 5 (by omega)), StC_cg h7 (fun o' _ j _ _ => by rw [hlow _ (by omega)]), ScC_cg h8 (hlow 10 (by omega)), NpC_cg h9 (fun a _ _ => hlow a (by omega)), LaC_cg h10 (hlow 18 (by omega)) (fun a _ => hlow a (by omega)), ?_⟩
      · have hx := adr_in ho' hi' a (by omega) (by omega)
        by_cases hz : o' = m
        · refine hrow a (by omega) (fun w => ?_)
          obtain ⟨j, hj, hx⟩ := w
          omega
        · have hb := adr_op (o := o') hi' m
          exact hlow a (by omega)
      · obtain ⟨v1, v2, v3⟩ := h11
        refine ⟨fun o' ho' => ?_, fun o' i' ho' hi' => ?_, ?_⟩
        · have hv := v1 o' ho'
          by_cases hz : o' = m
          · subst hz
            have : qV (Qm Q D (o' + 1) (qV Q) (qR Q) cp) o' = g o' := by
              rw [hg o' ho]
              exact if_pos (Nat.lt_succ_self _)
            rw [this]
            exact q1
          · have : qV (Qm Q D (m + 1) (qV Q) (qR Q) cp) o' = qV (Qm Q D m (qV Q) (qR Q) cp) o' := by
              show (if o' < m + 1 then dG D o' else qV Q o') = (if o' < m then dG D o' else qV Q o')
              by_cases hy : o' < m
              · rw [if_pos hy, if_pos (by omega)]
              · rw [if_neg hy, if_neg (by omega)]
            rw [this]
            exact KyC_cg hv (fun a _ _ => hlow a (by omega))
        · have hv := v2 o' i' ho' hi'
          have hdiv : spt o' i' / 3 = o' := spt_div hi'
          by_cases hz : o' = m
          · subst hz
            have e : qR (Qm Q D (o' + 1) (qV Q) (qR Q) cp) (spt o' i') = dR D (spt o' i') := if_pos (by rw [hdiv]; omega)
            rw [e]
            by_cases hy : i' < eP E o'
            · exact q2 i' hy
            · have hun : unus E (spt o' i') := fun o2 i2 v2' hh => by
                obtain ⟨a1, a2⟩ := spt_inj hh hi' (v2'.i3 hE)
                subst a1 a2
                exact hy v2'.2
              rw [q3 i' (by omega) hi', hv, (hu _ hun).1]
              have e2' : qR (Qm Q D o' (qV Q) (qR Q) cp) (spt o' i') = qR Q (spt o' i') := if_neg (by rw [hdiv]; omega)
              rw [e2', (hu _ hun).2]
          · have e : qR (Qm Q D (m + 1) (qV Q) (qR Q) cp) (spt o' i') = qR (Qm Q D m (qV Q) (qR Q) cp) (spt o' i') := by
              show (if spt o' i' / 3 < m + 1 then dR D (spt o' i') else qR Q (spt o' i')) = (if spt o' i' / 3 < m then dR D (spt o' i') else qR Q (spt o' i'))
              rw [hdiv]
              by_cases hy : o' < m
              · rw [if_pos hy, if_pos (by omega)]
              · rw [if_neg hy, if_neg (by omega)]
            rw [e, ← hv]
            have := adr_in ho' hi' (20 + 33 * o' + 18 + 5 * i') (by omega) (by omega)
            have hb := adr_op (o := o') hi' m
            rw [hlow _ (by omega)]
        · rw [hlow 10 (by omega)]
          exact v3
    obtain ⟨I2, e3, C2, F2⟩ := comp_loop sh hE hg hu cp d n (m + 1) I1 (by omega) (by omega) hCT (fun o i v => by
      have := v.1
      rw [hcol o i (by omega) (v.i3 hE) 5 (by omega)]
      exact h5 o i v)
    refine ⟨I2, ?_, C2, FX_tr (fun a ha hb hc => hrow a (by omega) (fun w => ?_)) F2⟩
    · unfold f_sm_completeCheckpoint_23 f_sm_completeCheckpoint_47
      simp (disch := omega) only [↓gI_t, ↓pI_t, ↓pZ_t, ↓ck_t, ↓aN_t, ↓cI_s, ↓cV_s, ↓cR_s, ↓onR_s, ↓onR_n, ↓nmI_t, ↓reduceIte, gA_t, aI_t, sI_t, aA_t, aB_t, sB_t, rmI_t, dvI_t, nI_add, pk_mul, pk_sub, nI_leI, nI_ltI, nI_eq, n_leT, n_leF, n_ltT, n_ltF, n_eqT, n_eqF, u2_ne, u2_at, u2_nj, r2_ne, r2_at, ↓i_neg1, m1_ne, m1_en, m1_lt, m1_le, m1_nlt, m1_nle, i_lits, true_and, and_true, ksm, hst, e1, kop1, e2, e3]
    · obtain ⟨j, hj, hx⟩ := w
      have := adr_in (o := m) (by omega) hj a (by omega) (by omega)
      omega
theorem comp_code (sh : shSm T) (hE : okE E) (hI : Inv E D) (hW : dW D = eP E (eN E + 1)) (hQ : eQ E ≠ 0) (hZ : zK E (dG D) ∧ zK E (qV Q)) (hu : ∀ s, unus E s → dR D s = 0 ∧ qR Q s = 0) (hC : CT E D g Q I T) (hb : qB Q = true) : ∃ I', f_sm_completeCheckpoint 10 ((I, T) : Mem) = some ((I', T) : Mem) ∧ CT (esQ E 0) (comD D) g (qP Q, qP Q, dR D, dG D, eQ E, qF Q, true) I' T ∧ FX T I I' := by
  have n4 := hE.1
  have hall := fun o i (v : vS E o i) => (all_done hE hI hW _ o i v rfl).1
  obtain ⟨h1, h2, h3, h4, h5, h6, h7, h8, h9, h10, h11⟩ := hC
  have hg : ∀ o, o ≤ eN E + 1 → g o = dG D o := fun o ho => funext fun k => by
    have hh := home_lt (k := k) (hE.p1 ho) (hE.p3 ho)
    exact (h6.2 o (home (eP E o) k) ⟨ho, hh⟩ (hall o _ ⟨ho, hh⟩)).1 k rfl
  have h5' : ∀ o i, vS E o i → I (20 + 33 * o + 18 + 5 * i) 5 = nI (dR D (spt o i)) := fun o i v => (h6.2 o i v (hall o i v)).2
  obtain ⟨s1, s2, s3, s4⟩ := h8
  obtain ⟨v1, v2, v3, v4, v5, v6, v7⟩ := h11
  have hrun : I 10 12 = nI (eQ E) := s3
  have hpo : I 10 7 = nI (qP Q) := v3
  obtain ⟨I1, hI1⟩ : ∃ I1, I1 = u2 (u2 (u2 I 10 11 (nI (eQ E))) 10 12 (nI 0)) 10 8 (nI (qP Q)) := ⟨_, rfl⟩
  have f : ∀ a, a ≠ 10 → I1 a = I a := fun a ha => by rw [hI1, u2_ne ha, u2_ne ha, u2_ne ha]
  have fj : ∀ j, j ≠ 11 → j ≠ 12 → j ≠ 8 → I1 10 j = I 10 j := fun j a b c => by rw [hI1, u2_nj rfl c, u2_nj rfl b, u2_nj rfl a]
  have hC1 : CT (esQ E 0) (comD D) g (Qm Q D 0 (qV Q) (qR Q) (eQ E)) I1 T := by
    refine ⟨CfC_cg h1 n4 (fj 5 (by omega) (by omega) (by omega)) (f 11 (by omega)) (fun o ho j _ _ => by rw [f _ (by omega)]), ChsC_cg h2 (fun a _ _ => f a (by omega)), InsC_cg h3 (fun a _ _ _ => f a (by omega)), KsC_cg h4 (fun a _ _ _ _ => f a (by omega)), PeC_cg h5 (fun a _ _ _ _ => f a (by omega)), ⟨h6.1, fun o i v hd => by cases hd⟩, StC_cg h7 (fun o _ j _ _ => by rw [f _ (by omega)]), ⟨(fj 6 (by omega) (by omega) (by omega)).trans s1, (fj 9 (by omega) (by omega) (by omega)).trans s2, ?_, fun w => absurd rfl w⟩, NpC_cg h9 (fun a _ _ => f a (by omega)), LaC_cg h10 (f 18 (by omega)) (fun a _ => f a (by omega)), ⟨fun o ho => KyC_cg (v1 o ho) (fun a _ _ => f a (by omega)), fun o i ho hi => ?_, (fj 7 (by omega) (by omega) (by omega)).trans v3, ?_, (fj 10 (by omega) (by omega) (by omega)).trans v5, ?_, ?_⟩⟩
    · rw [hI1, u2_nj rfl (by omega)]; exact u2_at rfl rfl
    · rw [f _ (by omega)]; exact v2 o i ho hi
    · rw [hI1]; exact u2_at rfl rfl
    · rw [hI1, u2_nj rfl (by omega), u2_nj rfl (by omega)]; exact u2_at rfl rfl
    · rw [fj 14 (by omega) (by omega) (by omega), v7, hb]; rfl
  obtain ⟨I2, e2, C2, F2⟩ := comp_loop (T := T) (Q := Q) (D := D) (E := esQ E 0) sh hE hg hu (eQ E) (eN E + 2) FU 0 I1 (by simp only [eg_Q]; omega) (by unfold FU; omega) hC1 (fun o i v => by rw [f _ (by omega)]; exact h5' o i v)
  refine ⟨I2, ?_, ?_, FX_tr (fun a ha hb' hc => f a (by omega)) F2⟩
  · have ksm := sh.1
    unfold f_sm_completeCheckpoint
    simp (disch := omega) only [↓gI_t, ↓pI_t, ↓pZ_t, ↓ck_t, ↓aN_t, ↓cI_s, ↓cV_s, ↓cR_s, ↓onR_s, ↓onR_n, ↓nmI_t, ↓reduceIte, gA_t, aI_t, sI_t, aA_t, aB_t, sB_t, rmI_t, dvI_t, nI_add, pk_mul, pk_sub, nI_leI, nI_ltI, nI_eq, n_leT, n_leF, n_ltT, n_ltF, n_eqT, n_eqF, u2_ne, u2_at, u2_nj, r2_ne, r2_at, ↓i_neg1, m1_ne, m1_en, m1_lt, m1_le, m1_nlt, m1_nle, i_lits, true_and, and_true, ksm, hrun, hpo]
    rw [← hI1]
    exact e2
  · obtain ⟨c1, c2, c3, c4, c5, c6, c7, c8, c9, c10, w1, w2, w3⟩ := C2
    refine ⟨c1, c2, c3, c4, c5, c6, c7, c8, c9, c10, fun o ho => ?_, fun o i ho hi => ?_, w3⟩
    · have hw := w1 o ho
      have e : qV (Qm Q D (eN (esQ E 0) + 2) (qV Q) (qR Q) (eQ E)) o = dG D o := by
        show (if o < eN E + 2 then dG D o else qV Q o) = dG D o
        by_cases hz : o < eN E + 2
        · rw [if_pos hz]
        · rw [if_neg hz]
          funext k
          rw [hZ.1.1 o (Or.inr (Or.inl (by omega))) k, hZ.2.1 o (Or.inr (Or.inl (by omega))) k]
      rw [e] at hw
      exact hw
    · have hw := w2 o i ho hi
      have e : qR (Qm Q D (eN (esQ E 0) + 2) (qV Q) (qR Q) (eQ E)) (spt o i) = dR D (spt o i) := by
        show (if spt o i / 3 < eN E + 2 then dR D (spt o i) else qR Q (spt o i)) = dR D (spt o i)
        rw [spt_div hi]
        by_cases hz : o < eN E + 2
        · rw [if_pos hz]
        · rw [if_neg hz]
          have hun : unus E (spt o i) := fun o2 i2 v2' hh => by
            obtain ⟨a1, a2⟩ := spt_inj hh hi (v2'.i3 hE)
            have := v2'.1
            omega
          rw [(hu _ hun).1, (hu _ hun).2]
      rw [e] at hw
      exact hw
/-- the hour -/
theorem CT_time (hE : okE E) (h : CT E D g Q I T) : CT (esT E (eT E + 1)) D g Q (u2 I 10 9 (nI (eT E + 1))) T ∧ FX T I (u2 I 10 9 (nI (eT E + 1))) := by
  obtain ⟨h1, h2, h3, h4, h5, h6, h7, h8, h9, h10, h11⟩ := h
  have n4 := hE.1
  have f : ∀ a, a ≠ 10 → u2 I 10 9 (nI (eT E + 1)) a = I a := fun a ha => u2_ne ha
  obtain ⟨v1, v2, v3, v4, v5, v6, v7⟩ := h11
  obtain ⟨s1, s2, s3, s4⟩ := h8
  exact ⟨⟨CfC_cg h1 n4 (u2_nj rfl (by omega)) (f 11 (by omega)) (fun o ho j _ _ => by rw [f _ (by omega)]), ChsC_cg h2 (fun a _ _ => f a (by omega)), InsC_cg h3 (fun a _ _ _ => f a (by omega)), KsC_cg h4 (fun a _ _ _ _ => f a (by omega)), PeC_cg h5 (fun a _ _ _ _ => f a (by omega)), PgC_cg hE h6 (fun o i _ _ => by rw [f _ (by omega)]), StC_cg h7 (fun o _ j _ _ => by rw [f _ (by omega)]), ⟨(u2_nj rfl (by omega)).trans s1, u2_at rfl rfl, (u2_nj rfl (by omega)).trans s3, fun hq hw => (u2_nj rfl (by omega)).trans (s4 hq hw)⟩, NpC_cg h9 (fun a _ _ => f a (by omega)), LaC_cg h10 (f 18 (by omega)) (fun a _ => f a (by omega)), ⟨fun o ho => KyC_cg (v1 o ho) (fun a _ _ => f a (by omega)), fun o i ho hi => by rw [f _ (by omega)]; exact v2 o i ho hi, (u2_nj rfl (by omega)).trans v3, (u2_nj rfl (by omega)).trans v4, (u2_nj rfl (by omega)).trans v5, (u2_nj rfl (by omega)).trans v6, (u2_nj rfl (by omega)).trans v7⟩⟩, fun a _ _ _ => f a (by omega)⟩
theorem tick_code {tw : List Int32 × List Int32 × List (Nat × Nat)} (sh : shSm T) (h550 : 550 ≤ tN T) (h : WD E D Q k) (hk : k ≤ 512) (hT : eT E + 1 ≤ 200 * k) (hC : CT E D g Q I T) : ∃ g' I' T', f_sm_performTick 10 ((I, T) : Mem) = some ((I', T') : Mem) ∧ CT (yE (tick1 (E, D, Q, tw))) (yD (tick1 (E, D, Q, tw))) g' (yQ (tick1 (E, D, Q, tw))) I' T' ∧ FX T I I' ∧ Ext T T' := by
  obtain ⟨hE, hA, hI, hTI, hW, hZ, hN, hCc, hP, hT0, hqc, hqk⟩ := h
  obtain ⟨tb, gc, hB, htb, hphi, hgc⟩ := hP
  have hlo2 : eT E - tb < 40000 := by omega
  have n4 := hE.1
  obtain ⟨C1, F1⟩ := CT_bg hE hC true
  obtain ⟨I1, hI1⟩ : ∃ I1, I1 = u2 I 10 14 (nI (b01 true)) := ⟨_, rfl⟩
  rw [← hI1] at C1 F1
  have h0 : (fun x => if x < 0 then grow (eG E) (eC E) (dC D x) else dC D x) = dC D := funext fun x => if_neg (by omega)
  obtain ⟨I2, e2, C2, F2⟩ := grow_loop (T := T) (Q := (qP Q, qO Q, qR Q, qV Q, qC Q, qF Q, true)) (g := g) sh hE hI (fun c => by have := hB.2.2.2 c; omega) 45 FU 0 I1 (by omega) (by unfold FU; omega) (by rw [h0]; exact C1)
  obtain ⟨g3, I3, T3, e3, C3, F3, X3⟩ := oper_loop (Q := (qP Q, qO Q, qR Q, qV Q, qC Q, qF Q, true)) hE hA htb hlo2 (by omega) (eN E + 2) FU (growA E D) g I2 T (Nat.le_refl _) (by unfold FU; omega) sh h550 (Inv_grow hI) (Bd_grow hB) C2 (fun s => by
    have := hN.1 s
    simp only [grow_f]
    omega)
  have sh3 := X3.sm h550 sh
  have ksm := sh.1
  have k1 := sh.2.2.2.2.1
  have k17 := sh.2.2.2.2.2.2.2.2.2.1
  have kl17 := sh.2.2.2.2.2.2.2.2.2.2.1
  have hst := C2.1.1
  have hpre : f_sm_performTick 10 ((I, T) : Mem) = (gI 11 12 ((I3, T3) : Mem) 10 fun v1 => if v1 = (0 : Int32) then (f_sm_performTick_99 10 ((I3, T3) : Mem)) else gI 11 13 ((I3, T3) : Mem) 10 fun v2 => if v2 = (0 : Int32) then (ck ((I3, T3) : Mem) 10 11 <| cV (f_sm_completeCheckpoint 10 ((I3, T3) : Mem)) fun M3 => f_sm_performTick_99 10 M3) else f_sm_performTick_99 10 ((I3, T3) : Mem)) := by
    rw [← e3]
    have e2' : f_sm_performTick_15 FU 10 17 (nI 45) (nI 0) ((I1, T) : Mem) = f_sm_performTick_48 FU 10 (nI (eN E + 1)) ((I2, T) : Mem) := by
      rw [e2, gI_t ksm, hst, show nI (eN E) + (1 : Int32) = nI (eN E + 1) from nI_1 _]
    show f_sm_performTick 10 ((I, T) : Mem) = f_sm_performTick_48 FU 10 (nI (eN E + 1)) ((I2, T) : Mem)
    rw [← e2']
    unfold f_sm_performTick
    have hb1 : nI 1 = nI (b01 true) := rfl
    simp (disch := omega) only [↓gI_t, ↓pI_t, ↓pZ_t, ↓ck_t, ↓aN_t, ↓cI_s, ↓cV_s, ↓cR_s, ↓onR_s, ↓onR_n, ↓nmI_t, ↓reduceIte, gA_t, aI_t, sI_t, aA_t, aB_t, sB_t, rmI_t, dvI_t, nI_add, pk_mul, pk_sub, nI_leI, nI_ltI, nI_eq, n_leT, n_leF, n_ltT, n_ltF, n_eqT, n_eqF, u2_ne, u2_at, u2_nj, r2_ne, r2_at, ↓i_neg1, m1_ne, m1_en, m1_lt, m1_le, m1_nlt, m1_nle, i_lits, true_and, and_true, ksm, k1, k17, kl17]
    rw [hI1, hb1]
  have h99 : ∀ (T : Tl) (E : Env) (D : Dy) (g : Nat → Kst) (Q : Slow) (I : Iw), okE E → shSm T → CT E D g Q I T → ∃ I', f_sm_performTick_99 10 ((I, T) : Mem) = some ((I', T) : Mem) ∧ CT (esT E (eT E + 1)) D g Q I' T ∧ FX T I I' := fun T E D g Q I hE sh hC => by
    obtain ⟨C, F⟩ := CT_time hE hC
    have ht := hC.2.2.2.2.2.2.2.1.2.1
    have ksm := sh.1
    refine ⟨_, ?_, C, F⟩
    unfold f_sm_performTick_99
    simp (disch := omega) only [↓gI_t, ↓pI_t, ↓pZ_t, ↓ck_t, ↓aN_t, ↓cI_s, ↓cV_s, ↓cR_s, ↓onR_s, ↓onR_n, ↓nmI_t, ↓reduceIte, gA_t, aI_t, sI_t, aA_t, aB_t, sB_t, rmI_t, dvI_t, nI_add, pk_mul, pk_sub, nI_leI, nI_ltI, nI_eq, n_leT, n_leF, n_ltT, n_ltF, n_eqT, n_eqF, u2_ne, u2_at, u2_nj, r2_ne, r2_at, ↓i_neg1, m1_ne, m1_en, m1_lt, m1_le, m1_nlt, m1_nle, i_lits, true_and, and_true, ksm, ht]
  have hI1' := Inv_tick hE hI
  have hwk := WK_tick hE htb hlo2 hI hB ⟨hZ.1, fun hQ => ⟨hZ.2.2.1 hQ, hZ.2.2.2.2 hQ⟩, hN.2.2.2.2.1, hN.2.2.2.2.2⟩
  have hrun := C3.2.2.2.2.2.2.2.1.2.2.1
  have hsk := C3.2.2.2.2.2.2.2.1.2.2.2
  have ksm3 := sh3.1
  rw [hpre, gI_t ksm3, hrun]
  have hw1 := hI1'.2.2.2.2.2.1
  have hw2 := sum_le (eP E (eN E + 1)) (fun j => dD (tickD E D) (spt (eN E + 1) j))
  have p3 := hE.p3 (o := eN E + 1) (by omega)
  have hQ31 : eQ E < 2 ^ 31 := by omega
  by_cases hd : eQ E ≠ 0 ∧ dW (tickD E D) = eP E (eN E + 1)
  · have hsel : tick1 (E, D, Q, tw) = (esT (esQ E 0) (eT E + 1), comD (tickD E D), (qP Q, qP Q, dR (tickD E D), dG (tickD E D), eQ E, qF Q, true), tw) := if_pos hd
    rw [hsel]
    obtain ⟨I4, e4, C4, F4⟩ := comp_code (T := T3) (D := tickD E D) (Q := (qP Q, qO Q, qR Q, qV Q, qC Q, qF Q, true)) sh3 hE hI1' hd.2 hd.1 ⟨(hwk.2.2.1 hd.1).1, hZ.2.1⟩ (fun s hs => ⟨(hwk.2.2.1 hd.1).2 s hs, hZ.2.2.2.1 s hs⟩) C3 rfl
    obtain ⟨I5, e5, C5, F5⟩ := h99 T3 (esQ E 0) _ _ _ I4 hE sh3 C4
    refine ⟨g3, I5, T3, ?_, C5, FX_ext (FX_tr (FX_tr F1 F2) F3) X3 (FX_tr F4 F5), X3⟩
    have hs13 : I3 10 13 = nI 0 := by
      rw [hsk hd.1 (Nat.le_of_eq hd.2)]
      have : dW (workA E (eN E + 2) (growA E D)) = eP E (eN E + 1) := hd.2
      rw [this, Nat.sub_self]
    rw [if_neg (nI_ne0 (by omega) hQ31), gI_t ksm3, hs13, if_pos (show nI 0 = (0 : Int32) by decide), ck_t ksm3, e4, cV_s]
    exact e5
  · have hsel : tick1 (E, D, Q, tw) = (esT E (eT E + 1), tickD E D, (qP Q, qO Q, qR Q, qV Q, qC Q, qF Q, true), tw) := if_neg hd
    rw [hsel]
    obtain ⟨I5, e5, C5, F5⟩ := h99 T3 _ _ _ _ I3 hE sh3 C3
    refine ⟨g3, I5, T3, ?_, C5, FX_ext (FX_tr (FX_tr F1 F2) F3) X3 F5, X3⟩
    by_cases hq0 : eQ E = 0
    · rw [hq0, if_pos (show nI 0 = (0 : Int32) by decide)]
      exact e5
    · have hne : dW (tickD E D) ≠ eP E (eN E + 1) := fun z => hd ⟨hq0, z⟩
      have hdw : dW (workA E (eN E + 2) (growA E D)) = dW (tickD E D) := rfl
      rw [if_neg (nI_ne0 (by omega) hQ31), gI_t ksm3, hsk hq0 (by show dW (tickD E D) ≤ eP E (eN E + 1); omega), hdw, if_neg (nI_ne0 (by omega) (by omega))]
      exact e5
end
