/-! THE PURE MACHINE: a tick; nothing stands still -/
section
variable {E : Env} {D : Dy} {o i f : Nat}
theorem popR_len {r : Rec} {l : List Rec} {q : List Bt} {h : Ch} (hq : h.1 = some (r :: l) :: q) : (if l = [] then q else some l :: q).length ≤ h.1.length := by
  rw [hq]; split <;> simp
theorem tkB_of {c : Nat} {h h' : Ch} (ht : tkB c h = true) (hl : h'.1.length ≤ h.1.length) (ho : h'.2.1 = h.2.1) : tkB c h' = true := by
  simp only [tkB, decide_eq_true_eq] at ht ⊢
  rw [ho]; omega
theorem lin_ne {o i j o' i' j' : Nat} (hi : i < 3) (hj : j < 3) (hi' : i' < 3) (hj' : j' < 3) (h : ¬ (o = o' ∧ i = i' ∧ j = j')) : lin o i j ≠ lin o' i' j' := fun z => h (lin_inj z hi hj hi' hj')
/-- what makes an instance ready isn't touched by those that work before it -/
theorem En_keep (hE : okE E) {o' i' : Nat} (hs' : vS E o' i') (hs : vS E o i) (hle : o ≤ o') (hne : ¬ (o' = o ∧ i' = i)) (b : Nat) (hI : Inv E D) (hn : En E D o i) : En E (works E o' i' b D) o i := by
  have i3 := hs.i3 hE
  have i3' := hs'.i3 hE
  have p31 : eP E 1 ≤ 3 := hE.p3 (by omega)
  have hsn : spt o i ≠ spt o' i' := spt_ne i3 i3' (fun z => hne ⟨z.1.symm, z.2.symm⟩)
  have h00 : o = 0 → i = 0 := fun z => by have := hs.2; rw [z, hE.2.2.1] at this; omega
  have h00' : o' = 0 → i' = 0 := fun z => by have := hs'.2; rw [z, hE.2.2.1] at this; omega
  have ho' : o = 0 → 1 ≤ o' := fun z => by
    refine Nat.pos_of_ne_zero (fun y => hne ⟨by omega, by rw [h00 z, h00' y]⟩)
  refine (works_ind hE hs' (fun D' => En E D' o i) ?_ ?_ ?_ ?_ ?_ (fun _ h => h) (fun _ h => h) b D hI hn).2
  · intro D' r l hI' hP hon hl ht
    have g3 : goal E D' o' i' r.1 < 3 := Nat.lt_of_lt_of_le (goal_lt hE hon) (hE.p3 (by omega))
    unfold En at hP ⊢
    simp only [put_f]
    rcases hP with ⟨h1, h2, h3, f, h4, h5, h6⟩ | ⟨h1, h2, h3, h4⟩ | ⟨h1, h2, h3, h4⟩
    · have f3 : f < 3 := Nat.lt_of_lt_of_le h4 (hE.p3 (by have := hs.1; omega))
      refine Or.inl ⟨h1, by rw [upw_ne hsn]; exact h2, h3, f, h4, h5, ?_⟩
      rw [upw_ne (lin_ne f3 i3 i3' g3 (by omega))]
      exact h6
    · refine Or.inr (Or.inl ⟨h1, ?_, h3, h4⟩)
      rw [upw_ne (by unfold spt; have := ho' h1; omega)]; exact h2
    · refine Or.inr (Or.inr ⟨h1, ?_, h3, fun j hj => ?_⟩)
      · rw [upw_ne (by unfold spt; have := ho' h1; omega)]; exact h2
      · rw [upw_ne (lin_ne (by omega) (by omega) i3' g3 (by have := ho' h1; omega))]; exact h4 j hj
  · intro D' hI' hP hon hl hH ht
    have p3 := hE.p3 (o := o' + 1) (by omega)
    unfold En at hP ⊢
    simp only [bar_f]
    rcases hP with ⟨h1, h2, h3, f, h4, h5, h6⟩ | ⟨h1, h2, h3, h4⟩ | ⟨h1, h2, h3, h4⟩
    · have f3 : f < 3 := Nat.lt_of_lt_of_le h4 (hE.p3 (by have := hs.1; omega))
      refine Or.inl ⟨h1, h2, by rw [upw_ne hsn]; exact h3, f, h4, h5, ?_⟩
      unfold barC
      rw [if_neg (by unfold lin; omega)]
      exact h6
    · refine Or.inr (Or.inl ⟨h1, h2, ?_, h4⟩)
      rw [upw_ne (by unfold spt; have := ho' h1; omega)]; exact h3
    · refine Or.inr (Or.inr ⟨h1, h2, ?_, fun j hj => ?_⟩)
      · rw [upw_ne (by unfold spt; have := ho' h1; omega)]; exact h3
      · unfold barC
        rw [if_neg (by unfold lin; have := ho' h1; omega)]; exact h4 j hj
  · intro ho0 hi0 D' r hI' hP hl hH hr
    exact absurd ⟨by omega, by rw [hi0, h00 (by omega)]⟩ hne
  · intro h1o D' f' r l q hI' hP hl hH hf' hb hq
    have f3' : f' < 3 := Nat.lt_of_lt_of_le hf' (hE.p3 (by have := hs'.1; omega))
    unfold En at hP ⊢
    simp only [tr_f]
    rcases hP with ⟨h1, h2, h3, f, h4, h5, h6⟩ | ⟨h1, h2, h3, h4⟩ | ⟨h1, h2, h3, h4⟩
    · have f3 : f < 3 := Nat.lt_of_lt_of_le h4 (hE.p3 (by have := hs.1; omega))
      refine Or.inl ⟨h1, by rw [upw_ne hsn]; exact h2, h3, f, h4, h5, ?_⟩
      rw [upw_ne (lin_ne f3 i3 f3' i3' (by omega))]
      exact h6
    · refine Or.inr (Or.inl ⟨h1, ?_, h3, h4⟩)
      rw [upw_ne (by unfold spt; omega)]; exact h2
    · refine Or.inr (Or.inr ⟨h1, ?_, h3, fun j hj => ?_⟩)
      · rw [upw_ne (by unfold spt; omega)]; exact h2
      · by_cases hc : lin 0 0 j = lin (o' - 1) f' i'
        · rw [hc, upw_eq]
          have := h4 j hj
          rw [hc] at this
          exact tkB_of this (popR_len hq) rfl
        · rw [upw_ne hc]; exact h4 j hj
  · intro h1o D' f' q hI' hP hl hH hf' hb hq
    have f3' : f' < 3 := Nat.lt_of_lt_of_le hf' (hE.p3 (by have := hs'.1; omega))
    have fin : ∀ D2 : Dy, dC D2 = upw (dC D') (lin (o' - 1) f' i') (q, (dC D' (lin (o' - 1) f' i')).2) → dL D2 = dL D' → dH D2 (spt o i) = dH D' (spt o i) → dS D2 (spt o i) = dS D' (spt o i) → dO D2 = dO D' → En E D2 o i := by
      intro D2 eC eL eH eS eO
      unfold En at hP ⊢
      rcases hP with ⟨h1, h2, h3, f, h4, h5, h6⟩ | ⟨h1, h2, h3, h4⟩ | ⟨h1, h2, h3, h4⟩
      · have f3 : f < 3 := Nat.lt_of_lt_of_le h4 (hE.p3 (by have := hs.1; omega))
        refine Or.inl ⟨h1, by rw [eL]; exact h2, by rw [eH]; exact h3, f, h4, by rw [eS]; exact h5, ?_⟩
        rw [eC, upw_ne (lin_ne f3 i3 f3' i3' (by omega))]
        exact h6
      · have e0 : spt o i = 0 := by unfold spt; have := h00 h1; omega
        rw [e0] at eH
        exact Or.inr (Or.inl ⟨h1, by rw [eL]; exact h2, by rw [eH]; exact h3, by rw [eO]; exact h4⟩)
      · have e0 : spt o i = 0 := by unfold spt; have := h00 h1; omega
        rw [e0] at eH
        refine Or.inr (Or.inr ⟨h1, by rw [eL]; exact h2, by rw [eH]; exact h3, fun j hj => ?_⟩)
        rw [eC]
        by_cases hc : lin 0 0 j = lin (o' - 1) f' i'
        · rw [hc, upw_eq]
          have := h4 j hj
          rw [hc] at this
          exact tkB_of this (by simp [hq]) rfl
        · rw [upw_ne hc]; exact h4 j hj
    by_cases hful : (dS D' (spt o' i') ||| 1 <<< f') = 2 ^ eP E (o' - 1) - 1
    · by_cases hz : o' = eN E + 1
      · refine fin _ ?_ ?_ ?_ ?_ ?_ <;> simp only [tbs_f E D' o' i' f' q hful hz]
        exact upw_ne hsn
      · refine fin _ ?_ ?_ ?_ ?_ ?_ <;> simp only [tbf_f E D' o' i' f' q hful hz]
        · exact upw_ne hsn
        · exact upw_ne hsn
    · refine fin _ ?_ ?_ ?_ ?_ ?_ <;> simp only [tbn_f E D' o' i' f' q hful]
      exact upw_ne hsn
/-- how an instance stands isn't touched by those that work behind it -/
theorem TIi_keep (hE : okE E) {o' i' : Nat} (hs' : vS E o' i') (hon : o ≤ eN E) (hi : i < eP E o) (hle : o' ≤ o) (hne : ¬ (o' = o ∧ i' = i)) (b : Nat) (hI : Inv E D) (hn : TIi E D o i) : TIi E (works E o' i' b D) o i := by
  have i3 : i < 3 := Nat.lt_of_lt_of_le hi (hE.p3 (by omega))
  have i3' := hs'.i3 hE
  have p3 := hE.p3 (o := o + 1) (by omega)
  have hsn : spt o i ≠ spt o' i' := spt_ne i3 i3' (fun z => hne ⟨z.1.symm, z.2.symm⟩)
  have fin : ∀ D' D2 : Dy, TIi E D' o i → (∀ j, j < 3 → dC D2 (lin o i j) = dC D' (lin o i j)) → dL D2 (spt o i) = dL D' (spt o i) → dH D2 (spt o i) = dH D' (spt o i) → dN D2 (spt o i) = dN D' (spt o i) → TIi E D2 o i := by
    intro D' D2 hP eC eL eH eN
    have eg : ∀ k, goal E D2 o i k = goal E D' o i k := fun k => by unfold goal; rw [eN]
    unfold TIi at hP ⊢
    rw [eL, eH]
    refine ⟨fun r l z => ?_, fun z1 z2 z3 => ?_⟩
    · rw [eg, eC _ (Nat.lt_of_lt_of_le (goal_lt hE hon) p3)]
      exact hP.1 r l z
    · obtain ⟨j, hj, hk⟩ := hP.2 z1 z2 z3
      exact ⟨j, hj, by rw [eC j (by omega)]; exact hk⟩
  refine (works_ind hE hs' (fun D' => TIi E D' o i) ?_ ?_ ?_ ?_ ?_ (fun _ h => h) (fun _ h => h) b D hI hn).2
  · intro D' r l hI' hP ho1 hl ht
    have g3 : goal E D' o' i' r.1 < 3 := Nat.lt_of_lt_of_le (goal_lt hE ho1) (hE.p3 (by omega))
    refine fin D' _ hP (fun j hj => ?_) ?_ ?_ ?_ <;> simp only [put_f]
    · exact upw_ne (lin_ne i3 hj i3' g3 (by omega))
    · exact upw_ne hsn
    · exact upw_ne hsn
  · intro D' hI' hP ho1 hl hH ht
    have p3' := hE.p3 (o := o' + 1) (by omega)
    refine fin D' _ hP (fun j hj => ?_) ?_ ?_ ?_ <;> simp only [bar_f]
    · unfold barC
      exact if_neg (by unfold lin; omega)
    · exact upw_ne hsn
  · intro ho0 hi0 D' r hI' hP hl hH hr
    refine fin D' _ hP (fun j hj => ?_) ?_ ?_ ?_ <;> simp only [src_f]
    exact upw_ne (by rw [ho0, hi0] at hsn; exact hsn)
  · intro h1o D' f' r l q hI' hP hl hH hf' hb hq
    have f3' : f' < 3 := Nat.lt_of_lt_of_le hf' (hE.p3 (by have := hs'.1; omega))
    refine fin D' _ hP (fun j hj => ?_) ?_ ?_ ?_ <;> simp only [tr_f]
    · exact upw_ne (lin_ne i3 hj f3' i3' (by omega))
    · exact upw_ne hsn
  · intro h1o D' f' q hI' hP hl hH hf' hb hq
    have f3' : f' < 3 := Nat.lt_of_lt_of_le hf' (hE.p3 (by have := hs'.1; omega))
    by_cases hful : (dS D' (spt o' i') ||| 1 <<< f') = 2 ^ eP E (o' - 1) - 1
    · by_cases hz : o' = eN E + 1
      · refine fin D' _ hP (fun j hj => ?_) ?_ ?_ ?_ <;> simp only [tbs_f E D' o' i' f' q hful hz]
        exact upw_ne (lin_ne i3 hj f3' i3' (by omega))
      · refine fin D' _ hP (fun j hj => ?_) ?_ ?_ ?_ <;> simp only [tbf_f E D' o' i' f' q hful hz]
        · exact upw_ne (lin_ne i3 hj f3' i3' (by omega))
        · exact upw_ne hsn
    · refine fin D' _ hP (fun j hj => ?_) ?_ ?_ ?_ <;> simp only [tbn_f E D' o' i' f' q hful]
      exact upw_ne (lin_ne i3 hj f3' i3' (by omega))
-- all the instances in their order
theorem workO_ind (hE : okE E) (ho : o ≤ eN E + 1) (P : Dy → Prop) (hstep : ∀ i D, i < eP E o → Inv E D → P D → P (works E o i (eR E) D)) : ∀ (m : Nat) (D : Dy), m ≤ eP E o → Inv E D → P D → Inv E (workO E o m D) ∧ P (workO E o m D)
  | 0, D, _, hI, hP => ⟨hI, hP⟩
  | m + 1, D, hm, hI, hP => by
    obtain ⟨a1, a2⟩ := workO_ind hE ho P hstep m D (by omega) hI hP
    exact ⟨(works_le hE ⟨ho, by omega⟩ _ a1).1, hstep m _ (by omega) a1 a2⟩
theorem workA_ind (hE : okE E) (P : Dy → Prop) (hstep : ∀ o i D, o ≤ eN E + 1 → i < eP E o → Inv E D → P D → P (works E o i (eR E) D)) : ∀ (m : Nat) (D : Dy), m ≤ eN E + 2 → Inv E D → P D → Inv E (workA E m D) ∧ P (workA E m D)
  | 0, D, _, hI, hP => ⟨hI, hP⟩
  | m + 1, D, hm, hI, hP => by
    obtain ⟨a1, a2⟩ := workO_ind hE (o := m) (by omega) P (fun i D => hstep m i D (by omega)) (eP E m) D (Nat.le_refl _) hI hP
    exact workA_ind hE P hstep m _ (by omega) a1 a2
theorem workO_lt (hE : okE E) (ho : o ≤ eN E + 1) : ∀ (m : Nat) (D : Dy), m ≤ eP E o → i < m → Inv E D → En E D o i → wt E (workO E o m D) < wt E D
  | 0, D, _, h, _, _ => by omega
  | m + 1, D, hm, hi, hI, hn => by
    by_cases hz : i = m
    · subst hz
      obtain ⟨a1, a2, a3⟩ : Inv E (workO E o i D) ∧ En E (workO E o i D) o i ∧ wt E (workO E o i D) ≤ wt E D := by
        have key : ∀ (k : Nat), k ≤ i → Inv E (workO E o k D) ∧ En E (workO E o k D) o i ∧ wt E (workO E o k D) ≤ wt E D := by
          intro k
          induction k with
          | zero => intro _; exact ⟨hI, hn, Nat.le_refl _⟩
          | succ k ih =>
            intro hk
            obtain ⟨b1, b2, b3⟩ := ih (by omega)
            have vk : vS E o k := ⟨ho, by omega⟩
            obtain ⟨c1, c2⟩ := works_le hE vk (eR E) b1
            exact ⟨c1, En_keep hE vk ⟨ho, by omega⟩ (Nat.le_refl _) (by omega) _ b1 b2, Nat.le_trans c2 b3⟩
        exact key i (Nat.le_refl _)
      obtain ⟨r, hr⟩ : ∃ r, eR E = r + 1 := ⟨eR E - 1, by have := hE.2.2.2.2.2.2.2.2.2.2.1.1; omega⟩
      have := works_lt hE ⟨ho, (by omega : i < eP E o)⟩ r a1 a2
      show wt E (works E o i (eR E) (workO E o i D)) < _
      rw [hr]
      omega
    · have h1 := workO_lt hE ho m D (by omega) (by omega) hI hn
      obtain ⟨a1, -⟩ := workO_ind hE ho (fun _ => True) (fun _ _ _ _ _ => trivial) m D (by omega) hI trivial
      exact Nat.lt_of_le_of_lt (works_le hE ⟨ho, (by omega : m < eP E o)⟩ (eR E) a1).2 h1
theorem workA_le (hE : okE E) {m : Nat} (hm : m ≤ eN E + 2) (hI : Inv E D) : Inv E (workA E m D) ∧ wt E (workA E m D) ≤ wt E D :=
  workA_ind hE (fun D' => wt E D' ≤ wt E D) (fun o i D' ho hi hI' hP => Nat.le_trans (works_le hE ⟨ho, hi⟩ _ hI').2 hP) m D hm hI (Nat.le_refl _)
theorem workA_lt (hE : okE E) (hi : i < eP E o) : ∀ (m : Nat) (D : Dy), m ≤ eN E + 2 → o < m → Inv E D → En E D o i → wt E (workA E m D) < wt E D
  | 0, D, _, h, _, _ => by omega
  | m + 1, D, hm, ho, hI, hn => by
    by_cases hz : o = m
    · subst hz
      have h1 := workO_lt hE (by omega) (eP E o) D (Nat.le_refl _) hi hI hn
      obtain ⟨a1, -⟩ := workO_ind hE (by omega) (fun _ => True) (fun _ _ _ _ _ => trivial) (eP E o) D (Nat.le_refl _) hI trivial
      exact Nat.lt_of_le_of_lt (workA_le hE (by omega) a1).2 h1
    · obtain ⟨a1, a2, a3⟩ := workO_ind hE (o := m) (by omega) (fun D' => En E D' o i ∧ wt E D' ≤ wt E D) (fun i' D' hi' hI' hP => ⟨En_keep hE ⟨by omega, hi'⟩ ⟨by omega, hi⟩ (by omega) (by omega) _ hI' hP.1, Nat.le_trans (works_le hE ⟨by omega, hi'⟩ _ hI').2 hP.2⟩) (eP E m) D (Nat.le_refl _) hI ⟨hn, Nat.le_refl _⟩
      exact Nat.lt_of_lt_of_le (workA_lt hE hi m _ (by omega) (by omega) a1 a2) a3
def TI (E : Env) (D : Dy) : Prop := ∀ o i, o ≤ eN E → i < eP E o → TIi E D o i
theorem workO_TI (hE : okE E) (hon : o ≤ eN E + 1) : ∀ (m : Nat) (D : Dy), m ≤ eP E o → Inv E D → Inv E (workO E o m D) ∧ ∀ i, i < m → o ≤ eN E → TIi E (workO E o m D) o i
  | 0, D, _, hI => ⟨hI, fun i hi => by omega⟩
  | m + 1, D, hm, hI => by
    obtain ⟨a1, a2⟩ := workO_TI hE hon m D (by omega) hI
    have vm : vS E o m := ⟨hon, by omega⟩
    refine ⟨(works_le hE vm _ a1).1, fun i hi ho => ?_⟩
    by_cases hz : i = m
    · subst hz
      exact works_TI hE vm _ _ a1
    · exact TIi_keep hE vm ho (by omega) (Nat.le_refl _) (by omega) _ a1 (a2 i (by omega) ho)
theorem workA_TI (hE : okE E) : ∀ (m : Nat) (D : Dy), m ≤ eN E + 2 → Inv E D → (∀ o i, m ≤ o → o ≤ eN E → i < eP E o → TIi E D o i) → TI E (workA E m D)
  | 0, D, _, hI, h => fun o i ho hi => h o i (by omega) ho hi
  | m + 1, D, hm, hI, h => by
    obtain ⟨a1, a2⟩ := workO_TI hE (o := m) (by omega) (eP E m) D (Nat.le_refl _) hI
    obtain ⟨-, a3⟩ := workO_ind hE (o := m) (by omega) (fun D' => ∀ o i, m + 1 ≤ o → o ≤ eN E → i < eP E o → TIi E D' o i) (fun i' D' hi' hI' hP o i h1 h2 h3 => TIi_keep hE ⟨by omega, hi'⟩ h2 h3 (by omega) (by omega) _ hI' (hP o i h1 h2 h3)) (eP E m) D (Nat.le_refl _) hI h
    refine workA_TI hE m _ (by omega) a1 (fun o i h1 h2 h3 => ?_)
    by_cases hz : o = m
    · subst hz
      exact a2 i h3 h2
    · exact a3 o i (by omega) h2 h3
-- growing older
theorem grow_nil {g c : Nat} {h : Ch} (ho : h.2.1 = []) : grow g c h = h := if_pos ho
theorem grow_f (E : Env) (D : Dy) : dL (growA E D) = dL D ∧ dH (growA E D) = dH D ∧ dS (growA E D) = dS D ∧ dP (growA E D) = dP D ∧ dN (growA E D) = dN D ∧ dD (growA E D) = dD D ∧ dR (growA E D) = dR D ∧ dK (growA E D) = dK D ∧ dG (growA E D) = dG D ∧ dX (growA E D) = dX D ∧ dY (growA E D) = dY D ∧ dB (growA E D) = dB D ∧ dI (growA E D) = dI D ∧ dT (growA E D) = dT D ∧ dM (growA E D) = dM D ∧ dU (growA E D) = dU D ∧ dO (growA E D) = dO D ∧ dW (growA E D) = dW D ∧ ∀ c, dC (growA E D) c = grow (eG E) (eC E) (dC D c) := ⟨rfl, rfl, rfl, rfl, rfl, rfl, rfl, rfl, rfl, rfl, rfl, rfl, rfl, rfl, rfl, rfl, rfl, rfl, fun _ => rfl⟩
theorem grow_csz {g c : Nat} {h : Ch} : csz (grow g c h) = csz h := by
  unfold grow
  split
  · rfl
  · split
    · simp [clo1, csz, nrec_app, nrec]
    · rfl
theorem Inv_grow (h : Inv E D) : Inv E (growA E D) := by
  obtain ⟨h1, h2, h3, h4, h5⟩ := h
  refine ⟨fun o i j v => ?_, fun c hc => ?_, h3, h4, h5⟩
  · obtain ⟨a1, a2⟩ := h1 o i j v
    obtain ⟨b1, b2, b3⟩ := grow_ok (g := eG E) a1
    unfold BI snt at a2 ⊢
    simp only [grow_f]
    exact ⟨b1, by rw [b2]; exact a2⟩
  · have := h2 c hc
    simp only [grow_f]
    rw [grow_nil this.2]
    exact this
theorem wt_grow : wt E (growA E D) = wt E D := by
  have hr : wRc E (growA E D) = wRc E D := by
    unfold wRc
    simp only [grow_f, grow_csz]
  unfold wt
  rw [hr]
  rfl
theorem grow_tkR {s g c : Nat} {h : Ch} (hs : 1 ≤ s) (ht : tkR s c h = false) : tkR s c (grow g c h) = false := by
  simp only [tkR, Bool.or_eq_false_iff, decide_eq_false_iff_not, Nat.not_lt] at ht
  unfold grow
  split
  · simp only [tkR, Bool.or_eq_false_iff, decide_eq_false_iff_not, Nat.not_lt]; exact ht
  · split
    · omega
    · simp only [tkR, Bool.or_eq_false_iff, decide_eq_false_iff_not, Nat.not_lt]; exact ht
theorem grow_tkB {g c : Nat} {h : Ch} (ht : tkB c h = false) : tkB c (grow g c h) = false := by
  simp only [tkB, decide_eq_false_iff_not, Nat.not_lt] at ht
  unfold grow
  split
  · simp only [tkB, decide_eq_false_iff_not, Nat.not_lt]; exact ht
  · rename_i hz
    rw [if_neg hz] at ht
    split
    · simp only [tkB, clo1, decide_eq_false_iff_not, Nat.not_lt]; simp; exact ht
    · simp only [tkB, decide_eq_false_iff_not, Nat.not_lt]; rw [if_neg hz]; exact ht
theorem TI_grow (hE : okE E) (h : TI E D) : TI E (growA E D) := fun o i ho hi => by
  obtain ⟨h1, h2⟩ := h o i ho hi
  refine ⟨fun r l z => ?_, fun z1 z2 z3 => ?_⟩
  · exact grow_tkR hE.2.2.2.2.2.2.2.1.1 (h1 r l z)
  · obtain ⟨j, hj, hk⟩ := h2 z1 z2 z3
    exact ⟨j, hj, grow_tkB hk⟩
theorem tkR_q {s c : Nat} {h : Ch} (hc : 2 ≤ c) (ht : tkR s c h = false) : h.1 ≠ [] := fun z => by
  simp only [tkR, Bool.or_eq_false_iff, decide_eq_false_iff_not, Nat.not_lt, z, List.length_nil] at ht
  omega
theorem tkB_q {c : Nat} {h : Ch} (hc : 2 ≤ c) (ht : tkB c h = false) : h.1 ≠ [] := fun z => by
  simp only [tkB, decide_eq_false_iff_not, Nat.not_lt, z, List.length_nil] at ht
  split at ht <;> omega
theorem snt_zero {s : Nat} (h : dD D s = false ∨ dH D s = true) : snt D s = 0 := by
  unfold snt b01
  rcases h with h | h <;> simp [h]
/-- a channel with something in it whose sender hasn't sent the barrier -/
theorem En_chan (hE : okE E) (hI : Inv E D) (hT : TI E D) : ∀ (d o i j : Nat), vC E o i j → eN E - o = d → snt D (spt o i) = 0 → (dC D (lin o i j)).1 ≠ [] → ∃ o i, vS E o i ∧ En E D o i
  | d, o, i, j, v, hd, hs, hq => by
    have hb := (hI.1 o i j v).2
    unfold BI at hb
    rw [hs] at hb
    have hD : dD D (spt (o + 1) j) = false := by
      cases hx : dD D (spt (o + 1) j) with
      | false => rfl
      | true => rw [hx] at hb; simp [b01] at hb
    have hH : dH D (spt (o + 1) j) = false := by
      cases hx : dH D (spt (o + 1) j) with
      | false => rfl
      | true =>
        have := (hI.2.2.1 _ _ v.vt).2.1 hx
        rw [hD] at this; cases this
    by_cases hl : dL D (spt (o + 1) j) = []
    · exact ⟨o + 1, j, v.vt, Or.inl ⟨by omega, hl, hH, i, v.2.1, by omega, hq⟩⟩
    · have hon := src_of_list hE hI v.vt hl
      cases hz : dL D (spt (o + 1) j) with
      | nil => exact absurd hz hl
      | cons r l =>
        have ht := (hT (o + 1) j hon v.2.2).1 r l hz
        have hg := goal_lt (D := D) (i := j) hE hon (k := r.1)
        cases d with
        | zero => omega
        | succ d => exact En_chan hE hI hT d (o + 1) j _ ⟨hon, v.2.2, hg⟩ (by omega) (snt_zero (Or.inl hD)) (tkR_q hE.2.2.2.2.2.2.2.2.2.1.1 ht)
theorem En_list (hE : okE E) (hI : Inv E D) (hT : TI E D) (ho : o ≤ eN E) (hi : i < eP E o) (hs : snt D (spt o i) = 0) (hl : dL D (spt o i) ≠ []) : ∃ o i, vS E o i ∧ En E D o i := by
  cases hz : dL D (spt o i) with
  | nil => exact absurd hz hl
  | cons r l => exact En_chan hE hI hT _ o i _ ⟨ho, hi, goal_lt (D := D) (i := i) hE ho (k := r.1)⟩ rfl hs (tkR_q hE.2.2.2.2.2.2.2.2.2.1.1 ((hT o i ho hi).1 r l hz))
theorem En_hold (hE : okE E) (hI : Inv E D) (hT : TI E D) (ho : o ≤ eN E) (hi : i < eP E o) (hH : dH D (spt o i) = true) : ∃ o i, vS E o i ∧ En E D o i := by
  have hs := snt_zero (D := D) (s := spt o i) (Or.inr hH)
  by_cases hl : dL D (spt o i) = []
  · by_cases ht : ∃ j, j < eP E (o + 1) ∧ tkB (eC E) (dC D (lin o i j)) = false
    · obtain ⟨j, hj, hk⟩ := ht
      exact En_chan hE hI hT _ o i j ⟨ho, hi, hj⟩ rfl hs (tkB_q hE.2.2.2.2.2.2.2.2.2.1.1 hk)
    · by_cases h0 : o = 0
      · subst h0
        have hi0 : i = 0 := by rw [hE.2.2.1] at hi; omega
        subst hi0
        refine ⟨0, 0, ⟨by omega, hi⟩, Or.inr (Or.inr ⟨rfl, hl, hH, fun j hj => ?_⟩)⟩
        cases hk : tkB (eC E) (dC D (lin 0 0 j)) with
        | true => rfl
        | false => exact absurd ⟨j, hj, hk⟩ ht
      · obtain ⟨j, hj, hk⟩ := (hT o i ho hi).2 hH (by omega) hl
        exact absurd ⟨j, hj, hk⟩ ht
  · exact En_list hE hI hT ho hi hs hl
/-- while a checkpoint runs, an instance that hasn't saved makes somebody ready -/
theorem En_undone (hE : okE E) (hI : Inv E D) (hT : TI E D) (hQ : eQ E ≠ 0) : ∀ (o i : Nat), vS E o i → dD D (spt o i) = false → ∃ o i, vS E o i ∧ En E D o i
  | 0, i, hs, hd => by
    have hi : i = 0 := by have := hs.2; rw [hE.2.2.1] at this; omega
    subst hi
    have := hI.2.2.2.2.1
    rw [show spt 0 0 = 0 from rfl] at hd
    rw [hd] at this
    simp [hQ] at this
  | o + 1, i, hs, hd => by
    have p1 := hE.p1 (o := o) (by have := hs.1; omega)
    have p3 := hE.p3 (o := o) (by have := hs.1; omega)
    have hm := (hI.2.2.1 (o + 1) i hs).2.2 (by omega)
    rw [show o + 1 - 1 = o by omega] at hm
    have h28 : (2 : Nat) ^ eP E o ≤ 2 ^ 3 := Nat.pow_le_pow_right (by omega) p3
    obtain ⟨f, hf, hb⟩ := mask_gap ⟨eP E o, by omega⟩ ⟨dS D (spt (o + 1) i), by omega⟩ hm
    simp only at hf hb
    have hH : dH D (spt (o + 1) i) = false := by
      cases hx : dH D (spt (o + 1) i) with
      | false => rfl
      | true =>
        have := (hI.2.2.1 _ _ hs).2.1 hx
        rw [hd] at this; cases this
    have v : vC E o f.val i := ⟨by have := hs.1; omega, hf, hs.2⟩
    by_cases hl : dL D (spt (o + 1) i) = []
    · by_cases hq : (dC D (lin o f.val i)).1 = []
      · have hbi := (hI.1 o f.val i v).2
        unfold BI at hbi
        rw [hq, hb, hd] at hbi
        have hsn : snt D (spt o f.val) = 0 := hbi.symm
        by_cases hx : dD D (spt o f.val) = false
        · exact En_undone hE hI hT hQ o f.val ⟨by have := hs.1; omega, hf⟩ hx
        · have hy : dH D (spt o f.val) = true := by
            unfold snt b01 at hsn
            simp at hx
            simp [hx] at hsn
            exact hsn
          exact En_hold hE hI hT v.1 hf hy
      · exact ⟨o + 1, i, hs, Or.inl ⟨by omega, hl, hH, f.val, hf, hb, hq⟩⟩
    · exact En_list hE hI hT (src_of_list hE hI hs hl) hs.2 (snt_zero (Or.inl hd)) hl
theorem sum_gap : ∀ {n : Nat} {g : Nat → Bool}, sumN n (fun j => b01 (g j)) < n → ∃ j, j < n ∧ g j = false
  | 0, _, h => by omega
  | n + 1, g, h => by
    cases hz : g n with
    | false => exact ⟨n, by omega, hz⟩
    | true =>
      simp only [sumN, hz, b01, if_pos] at h
      obtain ⟨j, hj, hk⟩ := sum_gap (n := n) (g := g) (by simp only [b01]; omega)
      exact ⟨j, by omega, hk⟩
/-- nobody is ready: then only batches that are filled stand in the channels -/
def Emp (E : Env) (D : Dy) : Prop := (∀ c, (dC D c).1 = []) ∧ (∀ s, dL D s = []) ∧ (eI E).length ≤ dO D ∧ eQ E = 0
theorem Emp_of (hE : okE E) (hI : Inv E D) (hT : TI E D) (hW : eQ E ≠ 0 → dW D < eP E (eN E + 1)) (hn : ¬ ∃ o i, vS E o i ∧ En E D o i) : Emp E D := by
  have hQ : eQ E = 0 := by
    refine Decidable.byContradiction (fun hq => hn ?_)
    have h1 := hW hq
    rw [hI.2.2.2.2.2.1] at h1
    obtain ⟨j, hj, hk⟩ := sum_gap (g := fun j => dD D (spt (eN E + 1) j)) h1
    exact En_undone hE hI hT hq (eN E + 1) j ⟨Nat.le_refl _, hj⟩ hk
  have hd := hI.2.2.2.2.2.2.2 hQ
  have hL : ∀ s, dL D s = [] := fun s => by
    by_cases hz : ∃ o i, o ≤ eN E ∧ i < eP E o ∧ s = spt o i
    · obtain ⟨o, i, ho, hi, rfl⟩ := hz
      refine Decidable.byContradiction (fun hl => hn (En_list hE hI hT ho hi (snt_zero (Or.inl (hd _))) hl))
    · exact (hI.2.2.2.1 s (fun o i ho hi e => hz ⟨o, i, ho, hi, e⟩)).1
  refine ⟨fun c => ?_, hL, ?_, hQ⟩
  · by_cases hz : ∃ o i j, vC E o i j ∧ c = lin o i j
    · obtain ⟨o, i, j, v, rfl⟩ := hz
      refine Decidable.byContradiction (fun hq => hn (En_chan hE hI hT _ o i j v rfl (snt_zero (Or.inl (hd _))) hq))
    · exact (hI.2.1 c (fun o i j v e => hz ⟨o, i, j, v, e⟩)).1
  · refine Decidable.byContradiction (fun hq => hn ⟨0, 0, ⟨by omega, by rw [hE.2.2.1]; omega⟩, Or.inr (Or.inl ⟨rfl, hL 0, ?_, by omega⟩)⟩)
    cases hx : dH D 0 with
    | false => rfl
    | true =>
      have := (hI.2.2.1 0 0 ⟨by omega, by rw [hE.2.2.1]; omega⟩).2.1 hx
      rw [hd] at this; cases this
end
