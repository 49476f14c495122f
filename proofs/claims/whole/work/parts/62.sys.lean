/-! THE PURE MACHINE WHOLE: its state, a tick with the end of a checkpoint, a failure, a beginning -/
def esN (E : Env) (v : Nat) : Env := (v, E.2)
def esK (E : Env) (v : Nat → Nat) : Env := (E.1, v, E.2.2)
def esA (E : Env) (v : Nat → Int32) : Env := (E.1, E.2.1, v, E.2.2.2)
def esB (E : Env) (v : Nat → Int32) : Env := (E.1, E.2.1, E.2.2.1, v, E.2.2.2.2)
def esP (E : Env) (v : Nat → Nat) : Env := (E.1, E.2.1, E.2.2.1, E.2.2.2.1, v, E.2.2.2.2.2)
def esS (E : Env) (v : Nat) : Env := (E.1, E.2.1, E.2.2.1, E.2.2.2.1, E.2.2.2.2.1, v, E.2.2.2.2.2.2)
def esG (E : Env) (v : Nat) : Env := (E.1, E.2.1, E.2.2.1, E.2.2.2.1, E.2.2.2.2.1, E.2.2.2.2.2.1, v, E.2.2.2.2.2.2.2)
def esC (E : Env) (v : Nat) : Env := (E.1, E.2.1, E.2.2.1, E.2.2.2.1, E.2.2.2.2.1, E.2.2.2.2.2.1, E.2.2.2.2.2.2.1, v, E.2.2.2.2.2.2.2.2)
def esR (E : Env) (v : Nat) : Env := (E.1, E.2.1, E.2.2.1, E.2.2.2.1, E.2.2.2.2.1, E.2.2.2.2.2.1, E.2.2.2.2.2.2.1, E.2.2.2.2.2.2.2.1, v, E.2.2.2.2.2.2.2.2.2)
def esI (E : Env) (v : List (Fin 16 × Int32)) : Env := (E.1, E.2.1, E.2.2.1, E.2.2.2.1, E.2.2.2.2.1, E.2.2.2.2.2.1, E.2.2.2.2.2.2.1, E.2.2.2.2.2.2.2.1, E.2.2.2.2.2.2.2.2.1, v, E.2.2.2.2.2.2.2.2.2.2)
def esT (E : Env) (v : Nat) : Env := (E.1, E.2.1, E.2.2.1, E.2.2.2.1, E.2.2.2.2.1, E.2.2.2.2.2.1, E.2.2.2.2.2.2.1, E.2.2.2.2.2.2.2.1, E.2.2.2.2.2.2.2.2.1, E.2.2.2.2.2.2.2.2.2.1, v, E.2.2.2.2.2.2.2.2.2.2.2)
def esQ (E : Env) (v : Nat) : Env := (E.1, E.2.1, E.2.2.1, E.2.2.2.1, E.2.2.2.2.1, E.2.2.2.2.2.1, E.2.2.2.2.2.2.1, E.2.2.2.2.2.2.2.1, E.2.2.2.2.2.2.2.2.1, E.2.2.2.2.2.2.2.2.2.1, E.2.2.2.2.2.2.2.2.2.2.1, v)
theorem eg_N (E : Env) (v : Nat) : eN (esN E v) = v ∧ eK (esN E v) = eK E ∧ eA (esN E v) = eA E ∧ eB (esN E v) = eB E ∧ eP (esN E v) = eP E ∧ eS (esN E v) = eS E ∧ eG (esN E v) = eG E ∧ eC (esN E v) = eC E ∧ eR (esN E v) = eR E ∧ eI (esN E v) = eI E ∧ eT (esN E v) = eT E ∧ eQ (esN E v) = eQ E := ⟨rfl, rfl, rfl, rfl, rfl, rfl, rfl, rfl, rfl, rfl, rfl, rfl⟩
theorem eg_K (E : Env) (v : Nat → Nat) : eN (esK E v) = eN E ∧ eK (esK E v) = v ∧ eA (esK E v) = eA E ∧ eB (esK E v) = eB E ∧ eP (esK E v) = eP E ∧ eS (esK E v) = eS E ∧ eG (esK E v) = eG E ∧ eC (esK E v) = eC E ∧ eR (esK E v) = eR E ∧ eI (esK E v) = eI E ∧ eT (esK E v) = eT E ∧ eQ (esK E v) = eQ E := ⟨rfl, rfl, rfl, rfl, rfl, rfl, rfl, rfl, rfl, rfl, rfl, rfl⟩
theorem eg_A (E : Env) (v : Nat → Int32) : eN (esA E v) = eN E ∧ eK (esA E v) = eK E ∧ eA (esA E v) = v ∧ eB (esA E v) = eB E ∧ eP (esA E v) = eP E ∧ eS (esA E v) = eS E ∧ eG (esA E v) = eG E ∧ eC (esA E v) = eC E ∧ eR (esA E v) = eR E ∧ eI (esA E v) = eI E ∧ eT (esA E v) = eT E ∧ eQ (esA E v) = eQ E := ⟨rfl, rfl, rfl, rfl, rfl, rfl, rfl, rfl, rfl, rfl, rfl, rfl⟩
theorem eg_B (E : Env) (v : Nat → Int32) : eN (esB E v) = eN E ∧ eK (esB E v) = eK E ∧ eA (esB E v) = eA E ∧ eB (esB E v) = v ∧ eP (esB E v) = eP E ∧ eS (esB E v) = eS E ∧ eG (esB E v) = eG E ∧ eC (esB E v) = eC E ∧ eR (esB E v) = eR E ∧ eI (esB E v) = eI E ∧ eT (esB E v) = eT E ∧ eQ (esB E v) = eQ E := ⟨rfl, rfl, rfl, rfl, rfl, rfl, rfl, rfl, rfl, rfl, rfl, rfl⟩
theorem eg_P (E : Env) (v : Nat → Nat) : eN (esP E v) = eN E ∧ eK (esP E v) = eK E ∧ eA (esP E v) = eA E ∧ eB (esP E v) = eB E ∧ eP (esP E v) = v ∧ eS (esP E v) = eS E ∧ eG (esP E v) = eG E ∧ eC (esP E v) = eC E ∧ eR (esP E v) = eR E ∧ eI (esP E v) = eI E ∧ eT (esP E v) = eT E ∧ eQ (esP E v) = eQ E := ⟨rfl, rfl, rfl, rfl, rfl, rfl, rfl, rfl, rfl, rfl, rfl, rfl⟩
theorem eg_S (E : Env) (v : Nat) : eN (esS E v) = eN E ∧ eK (esS E v) = eK E ∧ eA (esS E v) = eA E ∧ eB (esS E v) = eB E ∧ eP (esS E v) = eP E ∧ eS (esS E v) = v ∧ eG (esS E v) = eG E ∧ eC (esS E v) = eC E ∧ eR (esS E v) = eR E ∧ eI (esS E v) = eI E ∧ eT (esS E v) = eT E ∧ eQ (esS E v) = eQ E := ⟨rfl, rfl, rfl, rfl, rfl, rfl, rfl, rfl, rfl, rfl, rfl, rfl⟩
theorem eg_G (E : Env) (v : Nat) : eN (esG E v) = eN E ∧ eK (esG E v) = eK E ∧ eA (esG E v) = eA E ∧ eB (esG E v) = eB E ∧ eP (esG E v) = eP E ∧ eS (esG E v) = eS E ∧ eG (esG E v) = v ∧ eC (esG E v) = eC E ∧ eR (esG E v) = eR E ∧ eI (esG E v) = eI E ∧ eT (esG E v) = eT E ∧ eQ (esG E v) = eQ E := ⟨rfl, rfl, rfl, rfl, rfl, rfl, rfl, rfl, rfl, rfl, rfl, rfl⟩
theorem eg_C (E : Env) (v : Nat) : eN (esC E v) = eN E ∧ eK (esC E v) = eK E ∧ eA (esC E v) = eA E ∧ eB (esC E v) = eB E ∧ eP (esC E v) = eP E ∧ eS (esC E v) = eS E ∧ eG (esC E v) = eG E ∧ eC (esC E v) = v ∧ eR (esC E v) = eR E ∧ eI (esC E v) = eI E ∧ eT (esC E v) = eT E ∧ eQ (esC E v) = eQ E := ⟨rfl, rfl, rfl, rfl, rfl, rfl, rfl, rfl, rfl, rfl, rfl, rfl⟩
theorem eg_R (E : Env) (v : Nat) : eN (esR E v) = eN E ∧ eK (esR E v) = eK E ∧ eA (esR E v) = eA E ∧ eB (esR E v) = eB E ∧ eP (esR E v) = eP E ∧ eS (esR E v) = eS E ∧ eG (esR E v) = eG E ∧ eC (esR E v) = eC E ∧ eR (esR E v) = v ∧ eI (esR E v) = eI E ∧ eT (esR E v) = eT E ∧ eQ (esR E v) = eQ E := ⟨rfl, rfl, rfl, rfl, rfl, rfl, rfl, rfl, rfl, rfl, rfl, rfl⟩
theorem eg_I (E : Env) (v : List (Fin 16 × Int32)) : eN (esI E v) = eN E ∧ eK (esI E v) = eK E ∧ eA (esI E v) = eA E ∧ eB (esI E v) = eB E ∧ eP (esI E v) = eP E ∧ eS (esI E v) = eS E ∧ eG (esI E v) = eG E ∧ eC (esI E v) = eC E ∧ eR (esI E v) = eR E ∧ eI (esI E v) = v ∧ eT (esI E v) = eT E ∧ eQ (esI E v) = eQ E := ⟨rfl, rfl, rfl, rfl, rfl, rfl, rfl, rfl, rfl, rfl, rfl, rfl⟩
theorem eg_T (E : Env) (v : Nat) : eN (esT E v) = eN E ∧ eK (esT E v) = eK E ∧ eA (esT E v) = eA E ∧ eB (esT E v) = eB E ∧ eP (esT E v) = eP E ∧ eS (esT E v) = eS E ∧ eG (esT E v) = eG E ∧ eC (esT E v) = eC E ∧ eR (esT E v) = eR E ∧ eI (esT E v) = eI E ∧ eT (esT E v) = v ∧ eQ (esT E v) = eQ E := ⟨rfl, rfl, rfl, rfl, rfl, rfl, rfl, rfl, rfl, rfl, rfl, rfl⟩
theorem eg_Q (E : Env) (v : Nat) : eN (esQ E v) = eN E ∧ eK (esQ E v) = eK E ∧ eA (esQ E v) = eA E ∧ eB (esQ E v) = eB E ∧ eP (esQ E v) = eP E ∧ eS (esQ E v) = eS E ∧ eG (esQ E v) = eG E ∧ eC (esQ E v) = eC E ∧ eR (esQ E v) = eR E ∧ eI (esQ E v) = eI E ∧ eT (esQ E v) = eT E ∧ eQ (esQ E v) = v := ⟨rfl, rfl, rfl, rfl, rfl, rfl, rfl, rfl, rfl, rfl, rfl, rfl⟩
/-- what a tick sees, what it changes, what is saved, the text, the written text, the explanation -/
abbrev Sy : Type := Env × Dy × Slow × List Int32 × List Int32 × List (Nat × Nat)
def yE (S : Sy) : Env := S.1
def yD (S : Sy) : Dy := S.2.1
def yQ (S : Sy) : Slow := S.2.2.1
def yT (S : Sy) : List Int32 := S.2.2.2.1
def yW (S : Sy) : List Int32 := S.2.2.2.2.1
def yX (S : Sy) : List (Nat × Nat) := S.2.2.2.2.2
/-- the checkpoint ends with this tick -/
def endsQ (E : Env) (D : Dy) : Prop := eQ E ≠ 0 ∧ dW D = eP E (eN E + 1)
def comD (D : Dy) : Dy := zsW (zsD D (fun _ => false)) 0
def tick1 (S : Sy) : Sy :=
  if eQ (yE S) ≠ 0 ∧ dW (tickD (yE S) (yD S)) = eP (yE S) (eN (yE S) + 1) then
    (esT (esQ (yE S) 0) (eT (yE S) + 1), comD (tickD (yE S) (yD S)), (qP (yQ S), qP (yQ S), dR (tickD (yE S) (yD S)), dG (tickD (yE S) (yD S)), eQ (yE S), qF (yQ S), true), S.2.2.2)
  else (esT (yE S) (eT (yE S) + 1), tickD (yE S) (yD S), (qP (yQ S), qO (yQ S), qR (yQ S), qV (yQ S), qC (yQ S), qF (yQ S), true), S.2.2.2)
def brkD (D : Dy) (Q : Slow) : Dy := (fun _ => ([], [], 0), fun _ => [], fun _ => false, fun _ => 0, fun _ => 0, qR Q, fun _ => false, dR D, qV Q, dG D, dX D, dY D, dB D, dI D, dT D, dM D, dU D, qO Q, 0)
theorem brk_f (D : Dy) (Q : Slow) : dC (brkD D Q) = (fun _ => ([], [], 0)) ∧ dL (brkD D Q) = (fun _ => []) ∧ dH (brkD D Q) = (fun _ => false) ∧ dS (brkD D Q) = (fun _ => 0) ∧ dP (brkD D Q) = (fun _ => 0) ∧ dN (brkD D Q) = qR Q ∧ dD (brkD D Q) = (fun _ => false) ∧ dR (brkD D Q) = dR D ∧ dK (brkD D Q) = qV Q ∧ dG (brkD D Q) = dG D ∧ dX (brkD D Q) = dX D ∧ dY (brkD D Q) = dY D ∧ dB (brkD D Q) = dB D ∧ dI (brkD D Q) = dI D ∧ dT (brkD D Q) = dT D ∧ dM (brkD D Q) = dM D ∧ dU (brkD D Q) = dU D ∧ dO (brkD D Q) = qO Q ∧ dW (brkD D Q) = 0 := ⟨rfl, rfl, rfl, rfl, rfl, rfl, rfl, rfl, rfl, rfl, rfl, rfl, rfl, rfl, rfl, rfl, rfl, rfl, rfl⟩
/-- the counts anew -/
def zerD (D : Dy) : Dy := zsU (zsM (zsT (zsI (zsB (zsY (zsX D (fun _ => 0)) (fun _ => 0)) (fun _ => 0)) (fun _ => 0)) (fun _ => 0)) 0) 0
def slow0 (Q : Slow) : Slow := (qP Q, 0, fun _ => 0, fun _ _ => none, 0, 0, false)
def begS (S : Sy) : Sy := (esQ (esT (yE S) 0) 0, brkD (zerD (yD S)) (slow0 (yQ S)), slow0 (yQ S), S.2.2.2)
def failS (S : Sy) : Sy := (esQ (yE S) 0, brkD (yD S) (yQ S), (qP (yQ S), qO (yQ S), qR (yQ S), qV (yQ S), qC (yQ S), qF (yQ S) + nI 1, qB (yQ S)), S.2.2.2)
def zK (E : Env) (f : Nat → Kst) : Prop := (∀ o, (o = 0 ∨ eN E + 1 < o ∨ kyd (eK E o) = false) → ∀ k, f o k = none) ∧ ∀ o k x, eK E o = 6 → f o k = some x → x.2 = 0
def unus (E : Env) (s : Nat) : Prop := ∀ o i, vS E o i → s ≠ spt o i
def WZ (E : Env) (D : Dy) (Q : Slow) : Prop := zK E (dK D) ∧ zK E (qV Q) ∧ (eQ E ≠ 0 → zK E (dG D)) ∧ (∀ s, unus E s → qR Q s = 0) ∧ (eQ E ≠ 0 → ∀ s, unus E s → dR D s = 0)
def WN (E : Env) (D : Dy) (Q : Slow) : Prop := (∀ s, dN D s ≤ 324 * eT E) ∧ (∀ s, qR Q s ≤ 324 * eT E) ∧ (eQ E ≠ 0 → ∀ s, dR D s ≤ 324 * eT E) ∧ dM D ≤ 90 * eT E ∧ sumN 40000 (dT D) = dM D ∧ ∀ t, 40000 ≤ t → dT D t = 0
def WC (E : Env) (D : Dy) (Q : Slow) : Prop := qO Q ≤ (eI E).length ∧ (eQ E ≠ 0 → qP Q ≤ (eI E).length) ∧ (eQ E ≠ 0 → eQ E = qC Q + 1) ∧ (qB Q = false → eQ E = 0 ∧ eT E = 0 ∧ (∀ c, dC D c = ([], [], 0)) ∧ ∀ s, dL D s = [])
def WP (E : Env) (D : Dy) (k : Nat) : Prop := ∃ tb gc, Bd E D tb (eT E) ∧ tb ≤ eT E ∧ (eT E - tb) + phi E D + 167 * (60 - (eI E).length) ≤ 10065 + 40 * gc ∧ gc ≤ k
/-- all that holds between calls, after k calls -/
def WD (E : Env) (D : Dy) (Q : Slow) (k : Nat) : Prop := okE E ∧ okA E ∧ Inv E D ∧ TI E D ∧ (eQ E ≠ 0 → dW D < eP E (eN E + 1)) ∧ WZ E D Q ∧ WN E D Q ∧ WC E D Q ∧ WP E D k ∧ eT E ≤ 200 * k ∧ qC Q ≤ k ∧ eQ E ≤ k
section
variable {E : Env} {D : Dy} {Q : Slow} {o i f k : Nat}
theorem okE_TQ {t q : Nat} (h : okE E) : okE (esT (esQ E q) t) := h
theorem takes_RM (hE : okE E) (hs : vS E o i) (hI : Inv E D) (s : Nat) : dR (takes E D o i).2 s ≤ max (dR D s) (dN D s) ∧ dM (takes E D o i).2 ≤ dM D + 1 := by
  unfold takes
  split
  · split
    · exact ⟨Nat.le_max_left _ _, Nat.le_succ _⟩
    · simp only [src_f]; exact ⟨by omega, by omega⟩
  · split
    · exact ⟨Nat.le_max_left _ _, Nat.le_succ _⟩
    · rename_i f _
      split
      · rename_i q hq
        by_cases hful : (dS D (spt o i) ||| 1 <<< f) = 2 ^ eP E (o - 1) - 1
        · have key : upw (dR D) (spt o i) (dN D (spt o i)) s ≤ max (dR D s) (dN D s) := by
            by_cases hz : s = spt o i
            · rw [hz, upw_eq]; omega
            · rw [upw_ne hz]; omega
          by_cases hz : o = eN E + 1
          · simp only [tbs_f E D o i f q hful hz]; exact ⟨key, by omega⟩
          · simp only [tbf_f E D o i f q hful hz]; exact ⟨key, by omega⟩
        · simp only [tbn_f E D o i f q hful]; exact ⟨by omega, by omega⟩
      · simp only [tr_f]
        exact ⟨by omega, by split <;> omega⟩
      · exact ⟨Nat.le_max_left _ _, Nat.le_succ _⟩
theorem sendL_R : ∀ (l : List Rec) (D : Dy), dR (sendL E o i l D).2 = dR D ∧ dM (sendL E o i l D).2 = dM D
  | [], D => ⟨rfl, rfl⟩
  | r :: l, D => by
    unfold sendL
    split
    · have := sendL_R l (mvPut E D o i r l)
      simp only [put_f] at this
      exact this
    · exact ⟨rfl, rfl⟩
theorem sends_R : dR (sends E D o i).2 = dR D ∧ dM (sends E D o i).2 = dM D := by
  have h := sendL_R (E := E) (o := o) (i := i) (dL D (spt o i)) D
  unfold sends
  simp only
  split
  · unfold sendB
    split
    · split
      · exact h
      · simp only [bar_f]; exact h
    · exact h
  · exact h
theorem works_RM (hE : okE E) (hs : vS E o i) (s : Nat) : ∀ (b : Nat) (D : Dy), Inv E D → max (dR (works E o i b D) s) (dN (works E o i b D) s) ≤ max (dR D s) (dN D s) + 3 * (b + 1) ∧ dM (works E o i b D) ≤ dM D + b
  | 0, D, hI => by
    have h := sends_N (E := E) (D := D) s hI hs
    obtain ⟨r1, r2⟩ := sends_R (E := E) (D := D) (o := o) (i := i)
    unfold works
    simp only
    split
    · rw [r1, r2]; exact ⟨by omega, by omega⟩
    · show max (dR (sends E D o i).2 s) (dN (sends E D o i).2 s) ≤ _ ∧ dM (sends E D o i).2 ≤ _
      rw [r1, r2]; exact ⟨by omega, by omega⟩
  | b + 1, D, hI => by
    have h := sends_N (E := E) (D := D) s hI hs
    obtain ⟨r1, r2⟩ := sends_R (E := E) (D := D) (o := o) (i := i)
    obtain ⟨a1, -, a3, -⟩ := sends_ind hE hs (fun _ => True) (fun _ _ _ _ _ _ _ _ => trivial) (fun _ _ _ _ _ _ _ => trivial) D hI trivial
    have ht := takes_RM (E := E) (D := (sends E D o i).2) hE hs a1 s
    have htn := takes_N (E := E) (D := (sends E D o i).2) (o := o) (i := i) s
    rw [r1, r2] at ht
    unfold works
    simp only
    split
    · rename_i hr
      obtain ⟨e1, -⟩ := takes_ind hE hs (fun _ => True) (fun _ _ _ _ _ _ _ _ _ => trivial) (fun _ _ _ _ _ _ _ _ _ _ _ _ _ => trivial) (fun _ _ _ _ _ _ _ _ _ _ _ => trivial) _ a1 trivial (a3 hr).1 (a3 hr).2
      split
      · have := works_RM hE hs s b _ e1
        exact ⟨by omega, by omega⟩
      · show max (dR (takes E (sends E D o i).2 o i).2 s) (dN (takes E (sends E D o i).2 o i).2 s) ≤ _ ∧ dM (takes E (sends E D o i).2 o i).2 ≤ _
        exact ⟨by omega, by omega⟩
    · show max (dR (sends E D o i).2 s) (dN (sends E D o i).2 s) ≤ _ ∧ dM (sends E D o i).2 ≤ _
      rw [r1, r2]; exact ⟨by omega, by omega⟩
theorem workO_RM (hE : okE E) (ho : o ≤ eN E + 1) (s : Nat) : ∀ (m : Nat) (D : Dy), m ≤ eP E o → Inv E D → max (dR (workO E o m D) s) (dN (workO E o m D) s) ≤ max (dR D s) (dN D s) + 18 * m ∧ dM (workO E o m D) ≤ dM D + 5 * m
  | 0, D, _, _ => ⟨Nat.le_refl _, Nat.le_refl _⟩
  | m + 1, D, hm, hI => by
    have h := workO_RM hE ho s m D (by omega) hI
    obtain ⟨a1, -⟩ := workO_ind hE ho (fun _ => True) (fun _ _ _ _ _ => trivial) m D (by omega) hI trivial
    have h2 := works_RM hE ⟨ho, by omega⟩ s (eR E) _ a1 (i := m)
    have h5 := hE.2.2.2.2.2.2.2.2.2.2.1.2
    show max (dR (works E o m (eR E) (workO E o m D)) s) (dN (works E o m (eR E) (workO E o m D)) s) ≤ _ ∧ dM (works E o m (eR E) (workO E o m D)) ≤ _
    exact ⟨by omega, by omega⟩
theorem workA_RM (hE : okE E) (s : Nat) : ∀ (m : Nat) (D : Dy), m ≤ eN E + 2 → Inv E D → max (dR (workA E m D) s) (dN (workA E m D) s) ≤ max (dR D s) (dN D s) + 54 * m ∧ dM (workA E m D) ≤ dM D + 15 * m
  | 0, D, _, _ => ⟨Nat.le_refl _, Nat.le_refl _⟩
  | m + 1, D, hm, hI => by
    have h := workO_RM hE (o := m) (by omega) s (eP E m) D (Nat.le_refl _) hI
    obtain ⟨a1, -⟩ := workO_ind hE (o := m) (by omega) (fun _ => True) (fun _ _ _ _ _ => trivial) (eP E m) D (Nat.le_refl _) hI trivial
    have h2 := workA_RM hE s m _ (by omega) a1
    have p3 := hE.p3 (o := m) (by omega)
    show max (dR (workA E m (workO E m (eP E m) D)) s) (dN (workA E m (workO E m (eP E m) D)) s) ≤ _ ∧ dM (workA E m (workO E m (eP E m) D)) ≤ _
    exact ⟨by omega, by omega⟩
-- states by key, latencies: move by move
theorem proc_zero {kind : Nat} {a b : Int32} {st : Option (Int32 × Int32)} {kk : Fin 16} {v : Int32} : (kyd kind = false → (proc kind a b st kk v).2 = st) ∧ (kind = 6 → (∀ x, st = some x → x.2 = 0) → ∀ x, (proc kind a b st kk v).2 = some x → x.2 = 0) := by
  refine ⟨fun h => ?_, fun h hs x hx => ?_⟩
  · unfold proc
    split <;> first | rfl | (simp [kyd] at h)
  · subst h
    cases st with
    | none =>
      simp only [proc] at hx
      cases hx; rfl
    | some y =>
      simp only [proc] at hx
      split at hx
      · cases hx; rfl
      · cases hx; exact hs x rfl
def WK (E : Env) (D : Dy) (lo : Nat) : Prop := Bd E D lo (eT E + 1) ∧ zK E (dK D) ∧ zK E (dG D) ∧ (∀ s, unus E s → dR D s = 0) ∧ sumN 40000 (dT D) = dM D ∧ ∀ t, 40000 ≤ t → dT D t = 0
def WK0 (E : Env) (D : Dy) (lo : Nat) : Prop := Bd E D lo (eT E + 1) ∧ zK E (dK D) ∧ (eQ E ≠ 0 → zK E (dG D) ∧ ∀ s, unus E s → dR D s = 0) ∧ sumN 40000 (dT D) = dM D ∧ ∀ t, 40000 ≤ t → dT D t = 0
theorem zK_upd {f' : Kst} {g : Nat → Kst} (h : zK E g) (h1 : ∀ kk, f' kk ≠ none → o ≠ 0 ∧ o ≤ eN E + 1 ∧ kyd (eK E o) = true) (h2 : ∀ kk x, eK E o = 6 → f' kk = some x → x.2 = 0) : zK E (upw g o f') := by
  refine ⟨fun o' ho' kk => ?_, fun o' kk x h6 hx => ?_⟩
  · by_cases hz : o' = o
    · subst hz
      rw [upw_eq]
      refine Classical.byContradiction (fun hc => ?_)
      obtain ⟨b1, b2, b3⟩ := h1 kk hc
      rcases ho' with w | w | w
      · exact b1 w
      · omega
      · rw [b3] at w; cases w
    · rw [upw_ne hz]; exact h.1 o' ho' kk
  · by_cases hz : o' = o
    · subst hz
      rw [upw_eq] at hx
      exact h2 kk x h6 hx
    · rw [upw_ne hz] at hx; exact h.2 o' kk x h6 hx
theorem WK_works (hE : okE E) (hs : vS E o i) {lo : Nat} (hlo : lo ≤ eT E) (hlo2 : eT E - lo < 40000) (b : Nat) (hI : Inv E D) (h : WK0 E D lo) : WK0 E (works E o i b D) lo := by
  have hb := (Bd_works hE hs hlo b hI h.1).2
  refine ⟨hb, (works_ind hE hs (fun D' => Bd E D' lo (eT E + 1) ∧ zK E (dK D') ∧ (eQ E ≠ 0 → zK E (dG D') ∧ ∀ s, unus E s → dR D' s = 0) ∧ sumN 40000 (dT D') = dM D' ∧ ∀ t, 40000 ≤ t → dT D' t = 0) ?_ ?_ ?_ ?_ ?_ (fun _ h => h) (fun _ h => h) b D hI ⟨h.1, h.2⟩).2.2⟩
  · intro D' r l hI' hP hon hl ht
    have hw := Bd_works hE hs hlo 0 hI' hP.1
    refine ⟨?_, hP.2⟩
    obtain ⟨h1, h2, h3, h4⟩ := hP.1
    have hr := h2 (spt o i) r (by rw [hl]; exact List.mem_cons_self)
    refine ⟨h1, fun s x hx => ?_, fun c x hx => ?_, fun c => ?_⟩
    · simp only [put_f] at hx
      by_cases hz : s = spt o i
      · rw [hz, upw_eq] at hx
        exact h2 (spt o i) x (by rw [hl]; exact List.mem_cons_of_mem _ hx)
      · rw [upw_ne hz] at hx
        exact h2 s x hx
    · simp only [put_f] at hx
      by_cases hz : c = lin o i (goal E D' o i r.1)
      · rw [hz, upw_eq, flatH_putR.1] at hx
        rcases List.mem_append.mp hx with hx | hx
        · exact h3 _ x hx
        · rw [List.mem_singleton.mp hx]; exact hr
      · rw [upw_ne hz] at hx
        exact h3 c x hx
    · simp only [put_f]
      by_cases hz : c = lin o i (goal E D' o i r.1)
      · rw [hz, upw_eq]
        exact Nat.le_trans flatH_putR.2 (h4 _)
      · rw [upw_ne hz]; exact h4 c
  · intro D' hI' hP hon hl hH ht
    obtain ⟨h1, h2, h3, h4⟩ := hP.1
    refine ⟨⟨h1, h2, fun c x hx => ?_, fun c => ?_⟩, hP.2⟩
    · simp only [bar_f] at hx
      unfold barC at hx
      split at hx
      · rw [flatH_putB.1] at hx; exact h3 c x hx
      · exact h3 c x hx
    · simp only [bar_f]
      unfold barC
      split
      · exact Nat.le_trans flatH_putB.2 (h4 c)
      · exact h4 c
  · intro ho0 hi0 D' r hI' hP hl hH hr
    subst ho0 hi0
    have hh : dH D' (spt 0 0) = false := hH
    have ht : takes E D' 0 0 = (true, mvSrc E D' r) := by
      unfold takes
      rw [if_pos rfl]
      simp only [hr]
    have := (takes_inv hE hlo hs hI' hP.1 hl hh).2
    rw [ht] at this
    exact ⟨this, hP.2⟩
  · intro h1o D' f r l q hI' hP hl hH hf hbb hq
    obtain ⟨p1, p2, p3, p4, p5⟩ := hP
    have hr := p1.2.2.1 (lin (o - 1) f i) r (by simp [flatH, hq, flatQ])
    have hp := proc_zero (kind := eK E o) (a := eA E o) (b := eB E o) (st := dK D' o r.1) (kk := r.1) (v := r.2.1)
    refine ⟨?_, ?_, fun hQ => ?_, ?_, fun t ht => ?_⟩
    · obtain ⟨h1, h2, h3, h4⟩ := p1
      have q1 := hE.p1 (o := o - 1) (by have := hs.1; omega)
      have q3 := hE.p3 (o := o - 1) (by have := hs.1; omega)
      have hfl : flatH (dC D' (lin (o - 1) f i)) = r :: flatH (if l = [] then q else some l :: q, (dC D' (lin (o - 1) f i)).2) := by
        simp only [flatH, hq, flatQ]
        by_cases hz : l = []
        · simp [hz]
        · simp [hz, flatQ]
      refine ⟨fun s => ?_, fun s x hx => ?_, fun c x hx => ?_, fun c => ?_⟩
      · simp only [tr_f]
        by_cases hz : s = spt o i
        · rw [hz, upw_eq]
          exact Nat.lt_of_lt_of_le (Nat.mod_lt _ (by omega)) q3
        · rw [upw_ne hz]; exact h1 s
      · simp only [tr_f] at hx
        by_cases hz : s = spt o i
        · rw [hz, upw_eq, List.mem_map] at hx
          obtain ⟨y, -, rfl⟩ := hx
          exact hr
        · rw [upw_ne hz] at hx; exact h2 s x hx
      · simp only [tr_f] at hx
        by_cases hz : c = lin (o - 1) f i
        · rw [hz, upw_eq] at hx
          exact h3 _ x (by rw [hfl]; exact List.mem_cons_of_mem _ hx)
        · rw [upw_ne hz] at hx; exact h3 c x hx
      · simp only [tr_f]
        by_cases hz : c = lin (o - 1) f i
        · rw [hz, upw_eq]; exact h4 _
        · rw [upw_ne hz]; exact h4 c
    · simp only [tr_f]
      refine zK_upd p2 (fun kk hk => ⟨by omega, hs.1, ?_⟩) (fun kk x h6 hx => ?_)
      · cases hky : kyd (eK E o) with
        | true => rfl
        | false =>
          exfalso
          refine hk ?_
          have hn := p2.1 o (Or.inr (Or.inr hky))
          split
          · rw [hp.1 hky]; exact hn _
          · exact hn _
      · split at hx
        · exact hp.2 h6 (fun y hy => p2.2 o _ y h6 hy) x hx
        · exact p2.2 o kk x h6 hx
    · simp only [tr_f]; exact p3 hQ
    · simp only [tr_f]
      by_cases hz : o = eN E + 1
      · rw [if_pos hz, if_pos hz]
        have e := sumN_upd (n := 40000) (g := dT D') (g' := upw (dT D') (eT E - r.2.2) (dT D' (eT E - r.2.2) + 1)) (k := eT E - r.2.2) (by omega) (fun a _ hn => upw_ne hn)
        rw [upw_eq] at e
        omega
      · rw [if_neg hz, if_neg hz]; exact p4
    · simp only [tr_f]
      by_cases hz : o = eN E + 1
      · rw [if_pos hz, upw_ne (by omega)]; exact p5 t ht
      · rw [if_neg hz]; exact p5 t ht
  · intro h1o D' f q hI' hP hl hH hf hbb hq
    obtain ⟨p1, p2, p3, p4, p5⟩ := hP
    have q1 := hE.p1 (o := o - 1) (by have := hs.1; omega)
    have q3 := hE.p3 (o := o - 1) (by have := hs.1; omega)
    have fin : ∀ D2 : Dy, dC D2 = upw (dC D') (lin (o - 1) f i) (q, (dC D' (lin (o - 1) f i)).2) → dL D2 = dL D' → dP D2 = upw (dP D') (spt o i) ((f + 1) % eP E (o - 1)) → Bd E D2 lo (eT E + 1) := by
      intro D2 eC eL eP'
      refine ⟨fun s => ?_, fun s x hx => by rw [eL] at hx; exact p1.2.1 s x hx, fun c x hx => ?_, fun c => ?_⟩
      · rw [eP']
        by_cases hz : s = spt o i
        · rw [hz, upw_eq]
          exact Nat.lt_of_lt_of_le (Nat.mod_lt _ (by omega)) q3
        · rw [upw_ne hz]; exact p1.1 s
      · rw [eC] at hx
        by_cases hz : c = lin (o - 1) f i
        · rw [hz, upw_eq] at hx
          refine p1.2.2.1 (lin (o - 1) f i) x ?_
          simp only [flatH, hq, flatQ] at hx ⊢
          exact hx
        · rw [upw_ne hz] at hx; exact p1.2.2.1 c x hx
      · rw [eC]
        by_cases hz : c = lin (o - 1) f i
        · rw [hz, upw_eq]; exact p1.2.2.2 _
        · rw [upw_ne hz]; exact p1.2.2.2 c
    have sv : eQ E ≠ 0 → zK E (upw (dG D') o (fun k => if home (eP E o) k = i then dK D' o k else dG D' o k)) ∧ ∀ s, unus E s → upw (dR D') (spt o i) (dN D' (spt o i)) s = 0 := fun hQ => by
      obtain ⟨g1, g2⟩ := p3 hQ
      refine ⟨zK_upd g1 (fun kk hk => ⟨by omega, hs.1, ?_⟩) (fun kk x h6 hx => ?_), fun s hu => ?_⟩
      · cases hky : kyd (eK E o) with
        | true => rfl
        | false =>
          exfalso
          refine hk ?_
          split
          · exact p2.1 o (Or.inr (Or.inr hky)) kk
          · exact g1.1 o (Or.inr (Or.inr hky)) kk
      · split at hx
        · exact p2.2 o kk x h6 hx
        · exact g1.2 o kk x h6 hx
      · rw [upw_ne (hu o i hs)]; exact g2 s hu
    by_cases hful : (dS D' (spt o i) ||| 1 <<< f) = 2 ^ eP E (o - 1) - 1
    · by_cases hz : o = eN E + 1
      · refine ⟨fin _ ?_ ?_ ?_, ?_⟩ <;> simp only [tbs_f E D' o i f q hful hz]
        exact ⟨p2, sv, p4, p5⟩
      · refine ⟨fin _ ?_ ?_ ?_, ?_⟩ <;> simp only [tbf_f E D' o i f q hful hz]
        exact ⟨p2, sv, p4, p5⟩
    · refine ⟨fin _ ?_ ?_ ?_, ?_⟩ <;> simp only [tbn_f E D' o i f q hful]
      exact ⟨p2, p3, p4, p5⟩
theorem WK_tick (hE : okE E) {lo : Nat} (hlo : lo ≤ eT E) (hlo2 : eT E - lo < 40000) (hI : Inv E D) (hB : Bd E D lo (eT E)) (h : zK E (dK D) ∧ (eQ E ≠ 0 → zK E (dG D) ∧ ∀ s, unus E s → dR D s = 0) ∧ sumN 40000 (dT D) = dM D ∧ ∀ t, 40000 ≤ t → dT D t = 0) : WK0 E (tickD E D) lo :=
  (workA_ind hE (fun D' => WK0 E D' lo) (fun o i D' ho hi hI' hP => WK_works hE ⟨ho, hi⟩ hlo hlo2 _ hI' hP) (eN E + 2) (growA E D) (Nat.le_refl _) (Inv_grow hI) ⟨Bd_grow hB, h⟩).2
theorem Inv_tick (hE : okE E) (hI : Inv E D) : Inv E (tickD E D) := (workA_le hE (Nat.le_refl _) (Inv_grow hI)).1
theorem TI_tick (hE : okE E) (hI : Inv E D) : TI E (tickD E D) := workA_TI hE (eN E + 2) _ (Nat.le_refl _) (Inv_grow hI) (fun o i h1 h2 _ => by omega)
theorem sum_le : ∀ (n : Nat) (gg : Nat → Bool), sumN n (fun j => b01 (gg j)) ≤ n
  | 0, _ => Nat.le_refl _
  | n + 1, gg => by
    have h1 := sum_le n gg
    have h2 : b01 (gg n) ≤ 1 := by unfold b01; split <;> omega
    simp only [sumN]; omega
theorem sum_all : ∀ {n : Nat} {gg : Nat → Bool}, sumN n (fun j => b01 (gg j)) = n → ∀ j, j < n → gg j = true
  | 0, _, _, j, hj => by omega
  | n + 1, gg, h, j, hj => by
    have h1 := sum_le n gg
    have h2 : b01 (gg n) ≤ 1 := by unfold b01; split <;> omega
    simp only [sumN] at h
    have h3 : b01 (gg n) = 1 := by omega
    by_cases hz : j = n
    · subst hz
      cases hg : gg j with
      | true => rfl
      | false => rw [hg] at h3; simp [b01] at h3
    · exact sum_all (n := n) (gg := gg) (by omega) j (by omega)
/-- when the sinks have saved, all have -/
theorem all_done (hE : okE E) (hI : Inv E D) (hW : dW D = eP E (eN E + 1)) : ∀ (d o i : Nat), vS E o i → eN E + 1 - o = d → dD D (spt o i) = true ∧ (o ≤ eN E → dH D (spt o i) = false)
  | 0, o, i, hs, hd => by
    have ho : o = eN E + 1 := by have := hs.1; omega
    subst ho
    have := hI.2.2.2.2.2.1
    rw [hW] at this
    exact ⟨sum_all (gg := fun j => dD D (spt (eN E + 1) j)) this.symm i hs.2, fun h => by omega⟩
  | d + 1, o, i, hs, hd => by
    have ho : o ≤ eN E := by omega
    have p1 := hE.p1 (o := o + 1) (by omega)
    have h0 := (all_done hE hI hW d (o + 1) 0 ⟨by omega, by omega⟩ (by omega)).1
    have hb := (hI.1 o i 0 ⟨ho, hs.2, by omega⟩).2
    unfold BI at hb
    rw [h0] at hb
    unfold snt at hb
    cases hd1 : dD D (spt o i) with
    | false => rw [hd1] at hb; simp [b01] at hb
    | true =>
      cases hh : dH D (spt o i) with
      | true => rw [hd1, hh] at hb; simp [b01] at hb
      | false => exact ⟨rfl, fun _ => rfl⟩
theorem Inv_com (hE : okE E) (hI : Inv E D) (hW : dW D = eP E (eN E + 1)) (hQ : eQ E ≠ 0) (t : Nat) : Inv (esT (esQ E 0) t) (comD D) ∧ (∀ s, dH D s = false) := by
  have hall := fun o i (v : vS E o i) => all_done hE hI hW _ o i v rfl
  have hH : ∀ s, dH D s = false := fun s => by
    by_cases hz : ∃ o i, o ≤ eN E ∧ i < eP E o ∧ s = spt o i
    · obtain ⟨o, i, ho, hi, rfl⟩ := hz
      exact (hall o i ⟨by omega, hi⟩).2 ho
    · exact (hI.2.2.2.1 s (fun o i ho hi e => hz ⟨o, i, ho, hi, e⟩)).2
  refine ⟨⟨fun o i j v => ?_, hI.2.1, fun o i v => ?_, hI.2.2.2.1, ?_⟩, hH⟩
  · have v' : vC E o i j := v
    obtain ⟨a1, a2⟩ := hI.1 o i j v'
    refine ⟨a1, ?_⟩
    have h1 := (hall _ _ v'.vt).1
    unfold BI at a2
    rw [h1] at a2
    have h2 : snt D (spt o i) ≤ 1 := by unfold snt b01; split <;> omega
    have h3 : b01 true = 1 := rfl
    unfold BI comD snt
    simp only [gs_W, gs_D]
    simp only [Bool.false_and, b01, Bool.false_eq_true, if_false]
    omega
  · obtain ⟨a1, a2, a3⟩ := hI.2.2.1 o i v
    refine ⟨a1, fun z => ?_, a3⟩
    have z' : dH D (spt o i) = true := z
    rw [hH] at z'
    cases z'
  · obtain ⟨g1, g2, g3, g4⟩ := hI.2.2.2.2
    refine ⟨?_, ?_, g3, fun _ _ => rfl⟩
    · rfl
    · have e0 : ∀ n, sumN n (fun j => b01 (dD (comD D) (spt (eN (esT (esQ E 0) t) + 1) j))) = 0 := fun n => by
        induction n with
        | zero => rfl
        | succ n ih =>
          simp only [sumN]
          rw [ih]
          rfl
      rw [e0]
      rfl
theorem WD_tick {S : Sy} {tw : List Int32 × List Int32 × List (Nat × Nat)} (hS : S = (E, D, Q, tw)) (h : WD E D Q k) (hk : k ≤ 512) (hq : ¬ quietD E D) (hT : eT E + 1 ≤ 200 * k) : WD (yE (tick1 S)) (yD (tick1 S)) (yQ (tick1 S)) k := by
  obtain ⟨hE, hA, hI, hTI, hW, hZ, hN, hC, hP, hT0, hqc, hqk⟩ := h
  obtain ⟨tb, gc, hB, htb, hphi, hgc⟩ := hP
  have hlo2 : eT E - tb < 40000 := by omega
  have hwk := WK_tick hE htb hlo2 hI hB ⟨hZ.1, fun hQ => ⟨hZ.2.2.1 hQ, hZ.2.2.2.2 hQ⟩, hN.2.2.2.2.1, hN.2.2.2.2.2⟩
  have hI1 := Inv_tick hE hI
  have hT1 := TI_tick hE hI
  have hph := phi_tick hE hI hTI hW hq
  have hrm := fun s => workA_RM hE s (eN E + 2) (growA E D) (Nat.le_refl _) (Inv_grow hI)
  have n4 := hE.1
  have hrm1 : ∀ s, dN (tickD E D) s ≤ 324 * (eT E + 1) ∧ (eQ E ≠ 0 → dR (tickD E D) s ≤ 324 * (eT E + 1)) ∧ dM (tickD E D) ≤ 90 * (eT E + 1) := fun s => by
    have h1 := hrm s
    have h0 := workA_N hE s (eN E + 2) (growA E D) (Nat.le_refl _) (Inv_grow hI)
    have h2 := hN.1 s
    have h4 := hN.2.2.2.1
    simp only [grow_f] at h0 h1
    have e : tickD E D = workA E (eN E + 2) (growA E D) := rfl
    rw [e]
    refine ⟨by omega, fun w => ?_, by omega⟩
    have h3 := hN.2.2.1 w s
    omega
  obtain ⟨k1, k2, k3, k4, k5⟩ := hwk
  have hbd : ∀ E' : Env, eT E' = eT E + 1 → ∀ D' : Dy, dP D' = dP (tickD E D) → dL D' = dL (tickD E D) → dC D' = dC (tickD E D) → Bd E' D' tb (eT E') := fun E' e D' e1 e2 e3 => by
    obtain ⟨b1, b2, b3, b4⟩ := k1
    refine ⟨fun s => by rw [e1]; exact b1 s, fun s r hr => ?_, fun c r hr => ?_, fun c => by rw [e3, e]; exact b4 c⟩
    · rw [e2] at hr
      have := b2 s r hr
      omega
    · rw [e3] at hr
      have := b3 c r hr
      omega
  subst hS
  unfold tick1
  by_cases hd : eQ E ≠ 0 ∧ dW (tickD E D) = eP E (eN E + 1)
  · have hsel : (if eQ (yE (E, D, Q, tw)) ≠ 0 ∧ dW (tickD (yE (E, D, Q, tw)) (yD (E, D, Q, tw))) = eP (yE (E, D, Q, tw)) (eN (yE (E, D, Q, tw)) + 1) then
    (esT (esQ (yE (E, D, Q, tw)) 0) (eT (yE (E, D, Q, tw)) + 1), comD (tickD (yE (E, D, Q, tw)) (yD (E, D, Q, tw))), (qP (yQ (E, D, Q, tw)), qP (yQ (E, D, Q, tw)), dR (tickD (yE (E, D, Q, tw)) (yD (E, D, Q, tw))), dG (tickD (yE (E, D, Q, tw)) (yD (E, D, Q, tw))), eQ (yE (E, D, Q, tw)), qF (yQ (E, D, Q, tw)), true), (E, D, Q, tw).2.2.2)
  else (esT (yE (E, D, Q, tw)) (eT (yE (E, D, Q, tw)) + 1), tickD (yE (E, D, Q, tw)) (yD (E, D, Q, tw)), (qP (yQ (E, D, Q, tw)), qO (yQ (E, D, Q, tw)), qR (yQ (E, D, Q, tw)), qV (yQ (E, D, Q, tw)), qC (yQ (E, D, Q, tw)), qF (yQ (E, D, Q, tw)), true), (E, D, Q, tw).2.2.2) : Sy) = (esT (esQ E 0) (eT E + 1), comD (tickD E D), (qP Q, qP Q, dR (tickD E D), dG (tickD E D), eQ E, qF Q, true), tw) := if_pos hd
    rw [hsel]
    obtain ⟨j1, j2⟩ := Inv_com hE hI1 hd.2 hd.1 (eT E + 1)
    show WD (esT (esQ E 0) (eT E + 1)) (comD (tickD E D)) (qP Q, qP Q, dR (tickD E D), dG (tickD E D), eQ E, qF Q, true) k
    have hqq := hC.2.2.1 hd.1
    refine ⟨hE, hA, j1, fun o i ho hi => hT1 o i ho hi, fun w => absurd rfl w, ⟨k2, (k3 hd.1).1, fun w => absurd rfl w, (k3 hd.1).2, fun w => absurd rfl w⟩, ⟨fun s => (hrm1 s).1, fun s => (hrm1 s).2.1 hd.1, fun w => absurd rfl w, (hrm1 0).2.2, k4, k5⟩, ⟨hC.2.1 hd.1, fun w => absurd rfl w, fun w => absurd rfl w, fun w => by cases w⟩, ⟨tb, gc, hbd _ rfl _ rfl rfl rfl, by simp only [eg_T]; omega, ?_, hgc⟩, hT, hqk, Nat.zero_le _⟩
    · have hle : phi (esT (esQ E 0) (eT E + 1)) (comD (tickD E D)) ≤ phi E (tickD E D) := by
        have e1 : sumN 5 (dAg (esT (esQ E 0) (eT E + 1)) (comD (tickD E D))) = sumN 5 (dAg E (tickD E D)) := rfl
        have e2 : wRc (esT (esQ E 0) (eT E + 1)) (comD (tickD E D)) = wRc E (tickD E D) := rfl
        have e3 : wBr (esT (esQ E 0) (eT E + 1)) (comD (tickD E D)) = 0 := by
          unfold wBr
          have : dH (comD (tickD E D)) 0 = false := j2 0
          rw [this]
          rfl
        unfold phi wt
        rw [e1, e2, e3]
        omega
      simp only [eg_T, eg_Q]
      omega
  · have hsel : (if eQ (yE (E, D, Q, tw)) ≠ 0 ∧ dW (tickD (yE (E, D, Q, tw)) (yD (E, D, Q, tw))) = eP (yE (E, D, Q, tw)) (eN (yE (E, D, Q, tw)) + 1) then
    (esT (esQ (yE (E, D, Q, tw)) 0) (eT (yE (E, D, Q, tw)) + 1), comD (tickD (yE (E, D, Q, tw)) (yD (E, D, Q, tw))), (qP (yQ (E, D, Q, tw)), qP (yQ (E, D, Q, tw)), dR (tickD (yE (E, D, Q, tw)) (yD (E, D, Q, tw))), dG (tickD (yE (E, D, Q, tw)) (yD (E, D, Q, tw))), eQ (yE (E, D, Q, tw)), qF (yQ (E, D, Q, tw)), true), (E, D, Q, tw).2.2.2)
  else (esT (yE (E, D, Q, tw)) (eT (yE (E, D, Q, tw)) + 1), tickD (yE (E, D, Q, tw)) (yD (E, D, Q, tw)), (qP (yQ (E, D, Q, tw)), qO (yQ (E, D, Q, tw)), qR (yQ (E, D, Q, tw)), qV (yQ (E, D, Q, tw)), qC (yQ (E, D, Q, tw)), qF (yQ (E, D, Q, tw)), true), (E, D, Q, tw).2.2.2) : Sy) = (esT E (eT E + 1), tickD E D, (qP Q, qO Q, qR Q, qV Q, qC Q, qF Q, true), tw) := if_neg hd
    rw [hsel]
    show WD (esT E (eT E + 1)) (tickD E D) (qP Q, qO Q, qR Q, qV Q, qC Q, qF Q, true) k
    refine ⟨hE, hA, hI1, fun o i ho hi => hT1 o i ho hi, fun w => ?_, ⟨k2, hZ.2.1, fun w => (k3 w).1, hZ.2.2.2.1, fun w => (k3 w).2⟩, ⟨fun s => (hrm1 s).1, fun s => Nat.le_trans (hN.2.1 s) (by simp only [eg_T]; omega), fun w s => (hrm1 s).2.1 w, (hrm1 0).2.2, k4, k5⟩, ⟨hC.1, hC.2.1, hC.2.2.1, fun w => by cases w⟩, ⟨tb, gc, hbd _ rfl _ rfl rfl rfl, by simp only [eg_T]; omega, ?_, hgc⟩, hT, hqc, hqk⟩
    · have w' : eQ E ≠ 0 := w
      have hne : dW (tickD E D) ≠ eP E (eN E + 1) := fun z => hd ⟨w', z⟩
      have h1 := hI1.2.2.2.2.2.1
      have h2 := sum_le (eP E (eN E + 1)) (fun j => dD (tickD E D) (spt (eN E + 1) j))
      show dW (tickD E D) < eP E (eN E + 1)
      omega
    · have : phi (esT E (eT E + 1)) (tickD E D) = phi E (tickD E D) := rfl
      simp only [eg_T]
      rw [this]
      omega
end
