/-! CALLS: fail -/
section
variable {T T' : Tl} {I I' : Iw} {E E' : Env} {D D' : Dy} {Q Q' : Slow} {S : Sy} {g g' : Nat → Kst} {o i j s c r tk k m : Nat}
theorem wgt4 : ∀ m : Fin 5, wgt m.val ≤ 121 := by decide
theorem WD_fresh (hE : okE E) (hA : okA E) (hC : ∀ c, dC D c = ([], [], 0)) (hL : ∀ s, dL D s = []) (hH : ∀ s, dH D s = false) (hS : ∀ s, dS D s = 0) (hP : ∀ s, dP D s < 3) (hD : ∀ s, dD D s = false) (hW : dW D = 0) (hQ : eQ E = 0) (hO : dO D ≤ (eI E).length) (hZ1 : zK E (dK D)) (hZ2 : zK E (qV Q)) (hZ3 : ∀ s, unus E s → qR Q s = 0) (hN1 : ∀ s, dN D s ≤ 324 * eT E) (hN2 : ∀ s, qR Q s ≤ 324 * eT E) (hM : dM D ≤ 90 * eT E) (hM2 : sumN 40000 (dT D) = dM D) (hM3 : ∀ t, 40000 ≤ t → dT D t = 0) (hq1 : qO Q ≤ (eI E).length) (hB : qB Q = false → eT E = 0) (hT : eT E ≤ 200 * k) (hc : qC Q ≤ k) : WD E D Q k := by
  have n4 := hE.1
  have h60 := hE.2.2.2.2.2.2.2.2.2.2.2
  have hab : ∀ {P : Prop}, eQ E ≠ 0 → P := fun w => absurd hQ w
  refine ⟨hE, hA, ⟨fun o i j v => ⟨⟨by rw [hC]; exact Nat.zero_le _, by rw [hC]; exact Nat.zero_le _, fun l hl => by rw [hC] at hl; cases hl⟩, ?_⟩, fun c _ => by rw [hC]; exact ⟨rfl, rfl⟩, fun o i v => ⟨by rw [hL]; exact Nat.zero_le _, fun w => (by rw [hH] at w; cases w), fun h1 => ?_⟩, fun s _ => ⟨hL s, hH s⟩, ?_, ?_, hO, fun _ => hD⟩, fun o i _ _ => ⟨fun r l e => (by rw [hL] at e; cases e), fun e => (by rw [hH] at e; cases e)⟩, fun w => hab w, ⟨hZ1, hZ2, fun w => hab w, hZ3, fun w => hab w⟩, ⟨hN1, hN2, fun w => hab w, hM, hM2, hM3⟩, ⟨hq1, fun w => hab w, fun w => hab w, fun w => ⟨hQ, hB w, hC, hL⟩⟩, ⟨eT E, 0, ⟨hP, fun s r hr => (by rw [hL] at hr; cases hr), fun c r hr => (by rw [hC] at hr; cases hr), fun c => by rw [hC]; exact Nat.zero_le _⟩, Nat.le_refl _, ?_, Nat.zero_le _⟩, hT, hc, by rw [hQ]; exact Nat.zero_le _⟩
  · unfold BI snt
    rw [hC, hS, hD, hD]
    unfold bit nbar b01
    simp only [Bool.false_and, Bool.false_eq_true, if_false, Nat.zero_div]
  · rw [hS]
    have p1 := hE.p1 (o := o - 1) (by have := v.1; omega)
    have : 2 ^ 1 ≤ 2 ^ eP E (o - 1) := Nat.pow_le_pow_right (by omega) p1
    omega
  · rw [hD, hQ]; rfl
  · rw [hW, sumN_z (fun x _ => by rw [hD]; rfl)]
  · have e1 : wRc E D = ((eI E).length - dO D) * (1 + wgt (eN E)) := by
      unfold wRc
      rw [sumN_z (fun x _ => by rw [hL]; exact Nat.zero_mul _), sumN_z (fun x _ => by rw [hC]; exact Nat.zero_mul _), Nat.zero_add]
    have e2 : wBr E D = 0 := by
      unfold wBr
      rw [if_pos hQ, hH]
      rfl
    have e3 : sumN 5 (dAg E D) ≤ 45 := by
      have : sumN 5 (dAg E D) ≤ sumN 5 (fun _ => 9) := sumN_le (fun s _ => dAg_le)
      have h2 : sumN 5 (fun _ => 9) = 45 := rfl
      omega
    have e4 : ((eI E).length - dO D) * (1 + wgt (eN E)) ≤ (eI E).length * 122 := Nat.mul_le_mul (Nat.sub_le _ _) (by
      have := wgt4 ⟨eN E, by omega⟩
      simp only at this
      omega)
    unfold phi wt
    rw [e1, e2]
    omega
theorem PD_fail (h : PD S k) : PD (failS S) (k + 1) := by
  obtain ⟨⟨hE, hA, hI, hTI, hW, hZ, hN, hC, hP, hT0, hqc, hqk⟩, hR⟩ := h
  refine ⟨?_, hR⟩
  exact WD_fresh (E := esQ (yE S) 0) (D := brkD (yD S) (yQ S)) (Q := (qP (yQ S), qO (yQ S), qR (yQ S), qV (yQ S), qC (yQ S), qF (yQ S) + nI 1, qB (yQ S))) hE hA (fun _ => rfl) (fun _ => rfl) (fun _ => rfl) (fun _ => rfl) (fun _ => (by omega : (0 : Nat) < 3)) (fun _ => rfl) rfl rfl hC.1 hZ.2.1 hZ.2.1 hZ.2.2.2.1 hN.2.1 hN.2.1 hN.2.2.2.1 hN.2.2.2.2.1 hN.2.2.2.2.2 hC.1 (fun w => (hC.2.2.2 w).2.1) (Nat.le_trans hT0 (by omega)) (Nat.le_succ_of_le hqc)
theorem SC_fx (h : SC S I T) (hE : okE (yE S)) (hC : CT E' D' g' Q' I' T) (f : FX T I I') (h1 : eN E' = eN (yE S)) (h2 : eK E' = eK (yE S)) (h3 : eA E' = eA (yE S)) (h4 : eB E' = eB (yE S)) (h5 : eI E' = eI (yE S)) : SC (E', D', Q', S.2.2.2) I' T ∧ KP I T I' T := SC_tick h hE.1 hC f Ext_rf h1 h2 h3 h4 h5
theorem sm_fail (sh : shSm T) (hE : okE E) (hC : CT E D g Q I T) : ∃ I', f_sm_failNow 10 ((I, T) : Mem) = some ((I', T) : Mem) ∧ CT (esQ E 0) (brkD D Q) g (qP Q, qO Q, qR Q, qV Q, qC Q, qF Q + nI 1, qB Q) I' T ∧ FX T I I' := by
  obtain ⟨I1, e1, C1, F1⟩ := sm_ret sh hE hC
  obtain ⟨s1, s2, s3, s4⟩ := C1.2.2.2.2.2.2.2.1
  obtain ⟨v1, v2, v3, v4, v5, v6, v7⟩ := C1.2.2.2.2.2.2.2.2.2.2
  have f4 : ∀ a, a ≠ 10 → u2 I1 10 10 (qF Q + nI 1) a = I1 a := fun a ha => u2_ne ha
  have fj4 : ∀ j, j ≠ 10 → u2 I1 10 10 (qF Q + nI 1) 10 j = I1 10 j := fun j a => u2_nj rfl a
  obtain ⟨C4, F4⟩ := CT_10 (E := esQ E 0) (q := 0) (t := eT E) (I' := u2 I1 10 10 (qF Q + nI 1)) (Q' := (qP Q, qO Q, qR Q, qV Q, qC Q, qF Q + nI 1, qB Q)) hE C1 f4 (fj4 5 (by omega)) ⟨(fj4 6 (by omega)).trans s1, (fj4 9 (by omega)).trans s2, (fj4 12 (by omega)).trans s3, fun hq => absurd rfl hq⟩ ⟨(fj4 7 (by omega)).trans v3, (fj4 8 (by omega)).trans v4, u2_at rfl rfl, (fj4 11 (by omega)).trans v6, (fj4 14 (by omega)).trans v7⟩ rfl rfl
  refine ⟨_, ?_, C4, FX_tr F1 F4⟩
  have ksm := sh.1
  unfold f_sm_failNow
  simp (disch := omega) only [↓gI_t, ↓pI_t, ↓pZ_t, ↓ck_t, ↓aN_t, ↓cI_x, ↓cV_x, ↓cR_x, ↓onR_s, ↓onR_n, ↓nmI_t, ↓reduceIte, gA_t, aI_t, sI_t, aA_t, aB_t, sB_t, rmI_t, dvI_t, nI_add, pk_mul, pk_sub, nI_leI, nI_ltI, nI_eq, n_leT, n_leF, n_ltT, n_ltF, n_eqT, n_eqF, u2_ne, u2_at, u2_nj, r2_ne, r2_at, ↓i_neg1, m1_ne, m1_en, m1_lt, m1_le, m1_nlt, m1_nle, i_lits, true_and, and_true, ksm, e1, v5]
theorem x_fail (hC : SC S I T) (h : PD S k) : ∃ I' T', f_x_fail 0 ((I, T) : Mem) = some (nI (qC (yQ S)), ((I', T') : Mem)) ∧ SC (failS S) I' T' ∧ KP I T I' T' := by
  have hC' := hC
  obtain ⟨sh, shx, h550, -, -, ⟨g, hCT⟩, -⟩ := hC
  have hE := h.1.1
  obtain ⟨I1, e1, C1, F1⟩ := sm_fail sh hE hCT
  obtain ⟨C2, K2⟩ := SC_fx hC' hE C1 F1 rfl rfl rfl rfl rfl
  refine ⟨I1, T, ?_, C2, K2⟩
  obtain ⟨x0, -, -, -, x3, -⟩ := shx
  have ksm := sh.1
  have v6 := C1.2.2.2.2.2.2.2.2.2.2.2.2.2.2.2.1
  unfold f_x_fail
  rw [gA_t x0, x3, onR_s, ck_t ksm, e1, cV_x, gA_t x0, x3, onR_s, gI_t ksm, v6]
  rfl
theorem m_fail (sh : shM T) (hC : SM S I T) : ∃ I' T', f_m_fail 492 ((I, T) : Mem) = some (nI (qC (yQ S)), ((I', T') : Mem)) ∧ SM (failS S) I' T' ∧ MF I T I' T' := by
  obtain ⟨q1, q2, q3, q4, q5, q6, q7, q8, v1, v2, v3, v4, v5, v6, v7, v8⟩ := hC.1
  have fm : FM I (u2 I 492 18 (qF (yQ S) + nI 1)) := FM_f2 (by omega)
  have f : ∀ a, a ≠ 492 → u2 I 492 18 (qF (yQ S) + nI 1) a = I a := fun a h => u2_ne h
  have fj : ∀ j, j ≠ 18 → u2 I 492 18 (qF (yQ S) + nI 1) 492 j = I 492 j := fun j h => u2_nj rfl h
  have hM : MR (yE S) (yD S) (qP (yQ S), qO (yQ S), qR (yQ S), qV (yQ S), qC (yQ S), qF (yQ S) + nI 1, qB (yQ S)) (eQ (yE S)) (eT (yE S)) (u2 I 492 18 (qF (yQ S) + nI 1)) T := ⟨CoM_cg q1 fm, ChsM_cg q2 (fun a _ _ => f a (by omega)), InsM_cg q3 (fun a _ => f a (by omega)), KyM_cg q4 (f _ (by omega)) (f _ (by omega)) (f _ (by omega)), StM_cg q5 (fun a _ _ => f a (by omega)), ScM_cg q6 (fun j _ => fj j (by omega)), LaM_cg q7 (f _ (by omega)) (fj _ (by omega)), RuM_cg q8 (fun a _ => f a (by omega)), KyM_cg v1 (f _ (by omega)) (f _ (by omega)) (f _ (by omega)), fun s hs => (by rw [f _ (by omega)]; exact v2 s hs), (fj _ (by omega)).trans v3, (fj _ (by omega)).trans v4, u2_at rfl rfl, (fj _ (by omega)).trans v6, (fj _ (by omega)).trans v7, (fj _ (by omega)).trans v8⟩
  obtain ⟨I1, e1, C1, F1⟩ := m_breaks sh hM
  have F := FM_tr fm F1
  refine ⟨I1, T, ?_, SM_tick hC C1 F, MF_FM F (fun _ _ _ => trivial) JM_rf⟩
  have w3 := C1.2.2.2.2.2.2.2.2.2.2.1
  unfold f_m_fail
  rw [sh.gI, sh.pI, sh.ck, v5, show qF (yQ S) + (1 : Int32) = qF (yQ S) + nI 1 from rfl, e1, cV_x, sh.gI, w3]
  rfl
end
