/-! THE REFERENCE: a tick whole; quiet -/
section
variable {T : Tl} {I I' : Iw} {E : Env} {D : Dy} {Q : Slow} {o i j s c r tk k : Nat}
theorem MR_env {E' : Env} {D' : Dy} {r' tk' : Nat} {Q' : Slow} (h : MR E D Q r tk I T) (e1 : CoM I E → CoM I E') (e2 : ChsM I D → ChsM I D') (e3 : InsM I D → InsM I D') (e4 : dK D' = dK D) (e5 : StM I D → StM I D') (e6 : ScM I E D tk → ScM I E' D' tk') (e7 : LaM I T D → LaM I T D') (e8 : RuM I D → RuM I D') (e9 : VsM I Q r → VsM I Q' r') : MR E' D' Q' r' tk' I T := by
  obtain ⟨h1, h2, h3, h4, h5, h6, h7, h8, h9⟩ := h
  exact ⟨e1 h1, e2 h2, e3 h3, by rw [e4]; exact h4, e5 h5, e6 h6, e7 h7, e8 h8, e9 h9⟩
theorem mtick_code {tw : List Int32 × List Int32 × List (Nat × Nat)} (sh : shM T) (h : WD E D Q k) (hk : k ≤ 512) (hT : eT E + 1 ≤ 200 * k) (hC : MR E D Q (eQ E) (eT E) I T) : ∃ I' T', f_m_ticks 492 ((I, T) : Mem) = some ((I', T') : Mem) ∧ MR (yE (tick1 (E, D, Q, tw))) (yD (tick1 (E, D, Q, tw))) (yQ (tick1 (E, D, Q, tw))) (eQ (yE (tick1 (E, D, Q, tw)))) (eT (yE (tick1 (E, D, Q, tw)))) I' T' ∧ FM I I' ∧ JM T T' := by
  obtain ⟨hE, hA, hI, hTI, hW, hZ, hN, hCc, hP, hT0, hqc, hqk⟩ := h
  obtain ⟨tb, gc, hB, htb, hphi, hgc⟩ := hP
  have hlo2 : eT E - tb < 40000 := by omega
  have n4 := hE.1
  have h15 := hC.2.2.2.2.2.1.2.1
  obtain ⟨C1, F1⟩ := MR_tk (m := eT E + 1) hC
  obtain ⟨C2, F2⟩ := MR_qB (b := true) C1
  obtain ⟨Q1, hQ1⟩ : ∃ Q1 : Slow, Q1 = (qP Q, qO Q, qR Q, qV Q, qC Q, qF Q, true) := ⟨_, rfl⟩
  rw [← hQ1] at C2
  obtain ⟨I2, hI2⟩ : ∃ I2, I2 = u2 (u2 I 492 15 (nI (eT E + 1))) 492 19 (nI 1) := ⟨_, rfl⟩
  have hI2' : u2 (u2 I 492 15 (nI (eT E + 1))) 492 19 (nI (b01 true)) = I2 := hI2.symm
  rw [hI2'] at C2 F2
  have h0 : (fun x => if x < 0 then grow (eG E) (eC E) (dC D x) else dC D x) = dC D := funext fun x => if_neg (by omega)
  obtain ⟨I3, e3, C3, F3⟩ := m_growA (T := T) sh hE hI (fun c => by have := hB.2.2.2 c; omega) 54 FU 0 I2 (by omega) (by unfold FU; omega) (by rw [h0]; exact C2)
  have hnd : ¬ (eQ E ≠ 0 ∧ dW (growA E D) = eP E (eN E + 1)) := fun z => by
    have h1 := hW z.1
    have h2 : dW D = eP E (eN E + 1) := z.2
    omega
  have hf1 : fQ E (growA E D) Q1 = Q1 := if_neg hnd
  have hf2 : fR E (growA E D) = eQ E := if_neg hnd
  rw [← hf1, ← hf2] at C3
  rw [hf1] at C3
  have C3' : MR E (growA E D) (fQ E (growA E D) Q1) (fR E (growA E D)) (eT E + 1) I3 T := by rw [hf1]; exact C3
  have hwk : WK0 E (growA E D) tb := ⟨Bd_grow hB, hZ.1, fun hQ => ⟨hZ.2.2.1 hQ, hZ.2.2.2.2 hQ⟩, hN.2.2.2.2.1, hN.2.2.2.2.2⟩
  obtain ⟨I4, T4, e4, C4, F4, J4⟩ := ticks87 hE hA htb hlo2 (by omega) (eN E + 2) FU (growA E D) I3 T sh (Nat.le_refl _) (by unfold FU; omega) (Inv_grow hI) hwk (fun s => by
    have := hN.1 s
    simp only [grow_f]
    omega) C3'
  refine ⟨I4, T4, ?_, ?_, FM_tr F1 (FM_tr F2 (FM_tr F3 F4)), J4⟩
  · unfold f_m_ticks
    rw [sh.gI, h15, sh.pI, show (1 : Int32) = nI 1 from rfl, sh.pZ (by omega), nI_add, ← hI2]
    rw [show (0 : Int32) = nI 0 from rfl, e3]
    have : nI (eN E + 2) + (-1 : Int32) = nI (eN E + 1) := pk_m1 (eN E + 1)
    rw [← this]
    exact e4
  · have C5 : MR E (tickD E D) (fQ E (tickD E D) Q1) (fR E (tickD E D)) (eT E + 1) I4 T4 := C4
    by_cases hd : eQ E ≠ 0 ∧ dW (tickD E D) = eP E (eN E + 1)
    · have hsel : tick1 (E, D, Q, tw) = (esT (esQ E 0) (eT E + 1), comD (tickD E D), (qP Q, qP Q, dR (tickD E D), dG (tickD E D), eQ E, qF Q, true), tw) := if_pos hd
      rw [hsel]
      have g1 : fQ E (tickD E D) Q1 = (qP Q1, qP Q1, dR (tickD E D), dG (tickD E D), eQ E, qF Q1, qB Q1) := if_pos hd
      have g2 : fR E (tickD E D) = 0 := if_pos hd
      rw [g1, g2, hQ1] at C5
      exact MR_env C5 (fun h => h) (fun h => h) (fun h => h) rfl (fun h => h) (fun h => ⟨h.1, h.2.1, fun z => absurd rfl z⟩) (fun h => h) (fun h => h) (fun h => h)
    · have hsel : tick1 (E, D, Q, tw) = (esT E (eT E + 1), tickD E D, (qP Q, qO Q, qR Q, qV Q, qC Q, qF Q, true), tw) := if_neg hd
      rw [hsel]
      have g1 : fQ E (tickD E D) Q1 = Q1 := if_neg hd
      have g2 : fR E (tickD E D) = eQ E := if_neg hd
      rw [g1, g2, hQ1] at C5
      exact MR_env C5 (fun h => h) (fun h => h) (fun h => h) rfl (fun h => h) (fun h => h) (fun h => h) (fun h => h) (fun h => h)
end
