/-! THE REFERENCE: the working of an instance -/
section
variable {T : Tl} {I I' : Iw} {E : Env} {D : Dy} {Q : Slow} {o i j s c r tk lo ag : Nat}
theorem sendL_KG : ∀ (l : List Rec) (D : Dy), dK (sendL E o i l D).2 = dK D ∧ dG (sendL E o i l D).2 = dG D ∧ dT (sendL E o i l D).2 = dT D ∧ dW (sendL E o i l D).2 = dW D
  | [], D => ⟨rfl, rfl, rfl, rfl⟩
  | r :: l, D => by
    unfold sendL
    split
    · have := sendL_KG l (mvPut E D o i r l)
      simp only [put_f] at this
      exact this
    · exact ⟨rfl, rfl, rfl, rfl⟩
theorem sends_KG : dK (sends E D o i).2 = dK D ∧ dG (sends E D o i).2 = dG D ∧ dT (sends E D o i).2 = dT D ∧ dW (sends E D o i).2 = dW D := by
  have h := sendL_KG (E := E) (o := o) (i := i) (dL D (spt o i)) D
  unfold sends
  simp only
  split
  · unfold sendB
    split
    · split
      · exact h
      · simp only [bar_f]; exact h
    · exact h
  · exact h
theorem sends_id (hl : dL D (spt o i) = []) (hh : dH D (spt o i) = false) : sends E D o i = (true, D) := by
  unfold sends
  simp only [hl, sendL, if_pos]
  unfold sendB
  rw [if_neg (by rw [hh]; simp)]
theorem WK_sends (hE : okE E) (hs : vS E o i) (hlo : lo ≤ eT E) (hlo2 : eT E - lo < 40000) (hI : Inv E D) (h : WK0 E D lo) : WK0 E (sends E D o i).2 lo := by
  have hB := sends_Bd hE hlo hs hI h.1
  obtain ⟨k1, k2, k3, -⟩ := sends_KG (E := E) (D := D) (o := o) (i := i)
  obtain ⟨k4, k5⟩ := sends_R (E := E) (D := D) (o := o) (i := i)
  refine ⟨hB, ?_⟩
  rw [k1, k2, k3, k4, k5]
  exact h.2
theorem WK_takes (hE : okE E) (hs : vS E o i) (hlo : lo ≤ eT E) (hlo2 : eT E - lo < 40000) (hI : Inv E D) (h : WK0 E D lo) (hl : dL D (spt o i) = []) (hh : dH D (spt o i) = false) : WK0 E (takes E D o i).2 lo := by
  obtain ⟨m1', m2⟩ := takes_inv hE hlo hs hI h.1 hl hh
  refine ⟨m2, ?_⟩
  have hw := (WK_works hE hs hlo hlo2 1 hI h).2
  have e : works E o i 1 D = if (takes E D o i).1 then works E o i 0 (takes E D o i).2 else idl (takes E D o i).2 o := by
    rw [works_T, sends_id hl hh]
    rfl
  rw [e] at hw
  cases ht : (takes E D o i).1 with
  | false =>
    rw [ht] at hw
    exact hw
  | true =>
    rw [ht] at hw
    simp only [↓reduceIte] at hw
    rw [works_T] at hw
    obtain ⟨k1, k2, k3, -⟩ := sends_KG (E := E) (D := (takes E D o i).2) (o := o) (i := i)
    obtain ⟨k4, k5⟩ := sends_R (E := E) (D := (takes E D o i).2) (o := o) (i := i)
    have fin : ∀ X : Dy, dK X = dK (sends E (takes E D o i).2 o i).2 ∧ dG X = dG (sends E (takes E D o i).2 o i).2 ∧ dT X = dT (sends E (takes E D o i).2 o i).2 ∧ dR X = dR (sends E (takes E D o i).2 o i).2 ∧ dM X = dM (sends E (takes E D o i).2 o i).2 → (zK E (dK X) ∧ (eQ E ≠ 0 → zK E (dG X) ∧ ∀ s, unus E s → dR X s = 0) ∧ sumN 40000 (dT X) = dM X ∧ ∀ t, 40000 ≤ t → dT X t = 0) → zK E (dK (takes E D o i).2) ∧ (eQ E ≠ 0 → zK E (dG (takes E D o i).2) ∧ ∀ s, unus E s → dR (takes E D o i).2 s = 0) ∧ sumN 40000 (dT (takes E D o i).2) = dM (takes E D o i).2 ∧ ∀ t, 40000 ≤ t → dT (takes E D o i).2 t = 0 := fun X hX hx => by
      obtain ⟨x1, x2, x3, x4, x5⟩ := hX
      rw [x1, x2, x3, x4, x5, k1, k2, k3, k4, k5] at hx
      exact hx
    rw [show workT E o i (sends E (takes E D o i).2 o i) 0 = if (sends E (takes E D o i).2 o i).1 then (sends E (takes E D o i).2 o i).2 else blk (sends E (takes E D o i).2 o i).2 o from rfl] at hw
    split at hw
    · exact fin _ ⟨rfl, rfl, rfl, rfl, rfl⟩ hw
    · exact fin _ ⟨rfl, rfl, rfl, rfl, rfl⟩ hw
theorem sends_fQ : fQ E (sends E D o i).2 Q = fQ E D Q ∧ fR E (sends E D o i).2 = fR E D :=
  fQ_cg sends_KG.2.2.2 sends_R.1 sends_KG.2.1
theorem m_works8 (hE : okE E) (hA : okA E) (hlo : lo ≤ eT E) (hlo2 : eT E - lo < 40000) (hT : eT E < 2 ^ 30) (hs : vS E o i) : ∀ (b n : Nat) (D : Dy) (I : Iw) (T : Tl), shM T → Inv E D → WK0 E D lo → MR E D (fQ E D Q) (fR E D) (eT E + 1) I T → b + 2 ≤ n → dN D (spt o i) + 3 * (b + 1) < 2 ^ 31 → ∃ I' T', f_m_works_8 n 492 (nI o) (nI i) (nI b) (nI 1) ((I, T) : Mem) = some ((I', T') : Mem) ∧ MR E (works E o i b D) (fQ E (works E o i b D) Q) (fR E (works E o i b D)) (eT E + 1) I' T' ∧ FM I I' ∧ JM T T'
  | b, 0, D, I, T, _, _, _, _, hn, _ => by omega
  | b, n + 1, D, I, T, sh, hI, hW, hC, hn, hN => by
    have n4 := hE.1
    have ho := hs.1
    have hb31 : b < 2 ^ 31 := by omega
    obtain ⟨n0, hn0⟩ : ∃ n0, n = n0 + 1 := ⟨n - 1, by omega⟩
    have stop : ∀ (l3 : Int32) (M : Mem), f_m_works_8 n 492 (nI o) (nI i) l3 (nI 0) M = some M := fun l3 M => by
      rw [hn0]
      exact if_pos rfl
    have es := m_sink (T := T) (E := E) sh hC.1.1
    have hk : ∃ I1, f_m_works_8 (n + 1) 492 (nI o) (nI i) (nI b) (nI 1) ((I, T) : Mem) = f_m_works_35 (f_m_works_8 n) 492 (nI o) (nI i) (nI b) (nI (b01 (sends E D o i).1)) ((I1, T) : Mem) ∧ MR E (sends E D o i).2 (fQ E D Q) (fR E D) (eT E + 1) I1 T ∧ FM I I1 := by
      by_cases hz : o = eN E + 1
      · have hY := hI.2.2.2.1 (spt o i) (fun o' i' h1 h2 h3 => by
          have := (spt_inj h3 (hs.i3 hE) (Nat.lt_of_lt_of_le h2 (hE.p3 (by omega)))).1
          omega)
        rw [sends_id hY.1 hY.2]
        refine ⟨I, ?_, hC, FM_rf⟩
        show (if nI 1 = (0 : Int32) then _ else _) = _
        rw [if_neg (by decide), sh.ck, es, cI_x, if_pos (by rw [hz])]
        rfl
      · obtain ⟨I1, e1, C1, F1⟩ := m_sends (T := T) sh hE hs hI hC (by omega)
        refine ⟨I1, ?_, C1, F1⟩
        show (if nI 1 = (0 : Int32) then _ else _) = _
        rw [if_neg (by decide), sh.ck, es, cI_x, if_neg (fun w => hz ((nI_eq (by omega) (by omega)).mp w)), sh.ck, e1, cI_x]
        cases (sends E D o i).1 with
        | false => exact if_pos rfl
        | true => exact if_neg (by decide)
    obtain ⟨I1, e1, C1, F1⟩ := hk
    rw [e1, works_T]
    obtain ⟨k1, -, k3, -⟩ := sends_ind hE hs (fun _ => True) (fun _ _ _ _ _ _ _ _ => trivial) (fun _ _ _ _ _ _ _ => trivial) D hI trivial
    have kW := WK_sends hE hs hlo hlo2 hI hW
    have kN := sends_N (E := E) (D := D) (spt o i) hI hs
    have kQ := sends_fQ (E := E) (D := D) (Q := Q) (o := o) (i := i)
    generalize sends E D o i = R at *
    obtain ⟨x1, X⟩ := R
    dsimp only at k1 k3 kW kN kQ C1 ⊢
    rw [← kQ.1, ← kQ.2] at C1
    cases x1 with
    | false =>
      have hb := (C1.2.2.2.2.1 o (by omega)).2.2.1
      obtain ⟨C2, F2⟩ := MR_B (o := o) (v := dB X o + nI 1) C1
      refine ⟨u2 I1 502 o (dB X o + nI 1), T, ?_, ?_, FM_tr F1 F2, JM_rf⟩
      · unfold f_m_works_35 f_m_works_87
        rw [if_pos (show nI (b01 false) = (0 : Int32) by decide), sh.g22, sh.a502 (by omega), hb, sh.s502 (by omega)]
        exact stop _ _
      · rw [workT_f]; exact C2
    | true =>
      obtain ⟨l1, l2⟩ := k3 rfl
      unfold f_m_works_35 f_m_works_87
      rw [if_neg (show ¬ nI (b01 true) = (0 : Int32) by decide)]
      cases b with
      | zero =>
        refine ⟨I1, T, ?_, C1, F1, JM_rf⟩
        rw [if_pos (show nI 0 = (0 : Int32) by decide)]
        exact stop _ _
      | succ b =>
        rw [if_neg (nI_ne0 (by omega) hb31)]
        obtain ⟨I2, T2, e2, C2, F2, J2⟩ := m_takes (T := T) sh hE hA k1 kW.1 hlo2 hT C1 hs l1 kW.2.1 (fun h => (kW.2.2.1 h).1)
        have sh2 := J2.sh sh
        obtain ⟨m1', m2⟩ := takes_inv hE hlo hs k1 kW.1 l1 l2
        have mW := WK_takes hE hs hlo hlo2 k1 kW l1 l2
        have mN := takes_N (E := E) (D := X) (o := o) (i := i) (spt o i)
        rw [sh.ck, e2, cI_x]
        unfold workT
        simp only [↓reduceIte]
        cases ht : (takes E X o i).1 with
        | false =>
          have hi2 := (C2.2.2.2.2.1 o (by omega)).2.2.2
          obtain ⟨C3, F3⟩ := MR_I (o := o) (v := dI (takes E X o i).2 o + nI 1) C2
          refine ⟨u2 I2 503 o (dI (takes E X o i).2 o + nI 1), T2, ?_, ?_, FM_tr F1 (FM_tr F2 F3), J2⟩
          · rw [if_pos (show nI (b01 false) = (0 : Int32) by decide), sh2.g23, sh2.a503 (by omega), hi2, sh2.s503 (by omega)]
            exact stop _ _
          · simp only [Bool.false_eq_true, ↓reduceIte]
            exact C3
        | true =>
          obtain ⟨I3, T3, e3, C3, F3, J3⟩ := m_works8 hE hA hlo hlo2 hT hs b n (takes E X o i).2 I2 T2 sh2 m1' mW C2 (by omega) (by omega)
          refine ⟨I3, T3, ?_, ?_, FM_tr F1 (FM_tr F2 F3), JM_tr J2 J3⟩
          · rw [if_neg (show ¬ nI (b01 true) = (0 : Int32) by decide)]
            have : nI (b + 1) + (-1 : Int32) = nI b := pk_m1 b
            rw [this]
            exact e3
          · simp only [↓reduceIte]
            exact C3
theorem m_works (sh : shM T) (hE : okE E) (hA : okA E) (hlo : lo ≤ eT E) (hlo2 : eT E - lo < 40000) (hT : eT E < 2 ^ 30) (hs : vS E o i) (hI : Inv E D) (hW : WK0 E D lo) (hC : MR E D (fQ E D Q) (fR E D) (eT E + 1) I T) (hN : dN D (spt o i) + 18 < 2 ^ 31) : ∃ I' T', f_m_works 492 (nI o) (nI i) ((I, T) : Mem) = some ((I', T') : Mem) ∧ MR E (works E o i (eR E) D) (fQ E (works E o i (eR E) D) Q) (fR E (works E o i (eR E) D)) (eT E + 1) I' T' ∧ FM I I' ∧ JM T T' := by
  have r5 := hE.2.2.2.2.2.2.2.2.2.2.1.2
  have h10 := hC.1.2.2.2.2.1
  obtain ⟨I1, T1, e1, C1, F1, J1⟩ := m_works8 (Q := Q) hE hA hlo hlo2 hT hs (eR E) FU D I T sh hI hW hC (by unfold FU; omega) (by omega)
  refine ⟨I1, T1, ?_, C1, F1, J1⟩
  unfold f_m_works
  rw [sh.gI, h10]
  exact e1
end
