/-! THE PURE MACHINE: numbers that stay small -/
def Bd (E : Env) (D : Dy) (lo ag : Nat) : Prop := (∀ s, dP D s < 3) ∧ (∀ s r, r ∈ dL D s → lo ≤ r.2.2 ∧ r.2.2 ≤ eT E) ∧ (∀ c r, r ∈ flatH (dC D c) → lo ≤ r.2.2 ∧ r.2.2 ≤ eT E) ∧ ∀ c, (dC D c).2.2 ≤ ag
theorem flatH_putR {s c : Nat} {h : Ch} {r : Rec} : flatH (putR s c h r) = flatH h ++ [r] ∧ (putR s c h r).2.2 ≤ h.2.2 := by
  have key : ∀ h1 : Ch, flatH h1 = flatH h → h1.2.2 ≤ h.2.2 → flatH (if s ≤ (putR1 h1 r).2.1.length ∧ (putR1 h1 r).1.length < c then clo1 (putR1 h1 r) else putR1 h1 r) = flatH h ++ [r] ∧ (if s ≤ (putR1 h1 r).2.1.length ∧ (putR1 h1 r).1.length < c then clo1 (putR1 h1 r) else putR1 h1 r).2.2 ≤ h.2.2 := by
    intro h1 e1 e2
    split
    · rw [flatH_clo, flatH_put1, e1]
      exact ⟨rfl, Nat.zero_le _⟩
    · rw [flatH_put1, e1]
      exact ⟨rfl, e2⟩
  unfold putR
  by_cases hz : s ≤ h.2.1.length
  · simp only [if_pos hz]
    exact key _ flatH_clo (Nat.zero_le _)
  · simp only [if_neg hz]
    exact key _ rfl (Nat.le_refl _)
theorem flatH_putB {h : Ch} : flatH (putB h) = flatH h ∧ (putB h).2.2 ≤ h.2.2 := by
  unfold putB
  by_cases hz : h.2.1 = []
  · simp only [if_pos hz]
    exact ⟨by simp [flatH, flatQ_app, flatQ], Nat.le_refl _⟩
  · simp only [if_neg hz]
    exact ⟨by simp [flatH, clo1, flatQ_app, flatQ], Nat.zero_le _⟩
theorem flatH_grow {g c : Nat} {h : Ch} : flatH (grow g c h) = flatH h ∧ (grow g c h).2.2 ≤ h.2.2 + 1 := by
  unfold grow
  split
  · exact ⟨rfl, by omega⟩
  · split
    · exact ⟨flatH_clo, Nat.zero_le _⟩
    · exact ⟨rfl, Nat.le_refl _⟩
section
variable {E : Env} {D : Dy} {o i lo ag : Nat}
theorem Bd_works (hE : okE E) (hs : vS E o i) (hlo : lo ≤ eT E) (b : Nat) (hI : Inv E D) (h : Bd E D lo ag) : Inv E (works E o i b D) ∧ Bd E (works E o i b D) lo ag := by
  refine works_ind hE hs (fun D' => Bd E D' lo ag) ?_ ?_ ?_ ?_ ?_ (fun _ h => h) (fun _ h => h) b D hI h
  · intro D' r l hI' hP hon hl ht
    obtain ⟨h1, h2, h3, h4⟩ := hP
    have hr := h2 (spt o i) r (by rw [hl]; exact List.mem_cons_self)
    refine ⟨h1, fun s x hx => ?_, fun c x hx => ?_, fun c => ?_⟩
    · simp only [put_f] at hx
      by_cases hz : s = spt o i
      · rw [hz, upw_eq] at hx
        exact h2 (spt o i) x (by rw [hl]; exact List.mem_cons_of_mem _ hx)
      · rw [upw_ne hz] at hx
        exact h2 s x hx
    · simp only [put_f] at hx
      by_cases hz : c = lin o i (goal E D' o i r.1)
      · rw [hz, upw_eq, flatH_putR.1] at hx
        rcases List.mem_append.mp hx with hx | hx
        · exact h3 _ x hx
        · rw [List.mem_singleton.mp hx]; exact hr
      · rw [upw_ne hz] at hx
        exact h3 c x hx
    · simp only [put_f]
      by_cases hz : c = lin o i (goal E D' o i r.1)
      · rw [hz, upw_eq]
        exact Nat.le_trans flatH_putR.2 (h4 _)
      · rw [upw_ne hz]; exact h4 c
  · intro D' hI' hP hon hl hH ht
    obtain ⟨h1, h2, h3, h4⟩ := hP
    refine ⟨h1, h2, fun c x hx => ?_, fun c => ?_⟩
    · simp only [bar_f] at hx
      unfold barC at hx
      split at hx
      · rw [flatH_putB.1] at hx; exact h3 c x hx
      · exact h3 c x hx
    · simp only [bar_f]
      unfold barC
      split
      · exact Nat.le_trans flatH_putB.2 (h4 c)
      · exact h4 c
  · intro ho0 hi0 D' r hI' hP hl hH hr
    obtain ⟨h1, h2, h3, h4⟩ := hP
    refine ⟨h1, fun s x hx => ?_, h3, h4⟩
    simp only [src_f] at hx
    by_cases hz : s = 0
    · rw [hz, upw_eq, List.mem_singleton] at hx
      rw [hx]; exact ⟨hlo, Nat.le_refl _⟩
    · rw [upw_ne hz] at hx; exact h2 s x hx
  · intro h1o D' f r l q hI' hP hl hH hf hb hq
    obtain ⟨h1, h2, h3, h4⟩ := hP
    have p1 := hE.p1 (o := o - 1) (by have := hs.1; omega)
    have p3 := hE.p3 (o := o - 1) (by have := hs.1; omega)
    have hfl : flatH (dC D' (lin (o - 1) f i)) = r :: flatH (if l = [] then q else some l :: q, (dC D' (lin (o - 1) f i)).2) := by
      simp only [flatH, hq, flatQ]
      by_cases hz : l = []
      · simp [hz]
      · simp [hz, flatQ]
    have hr := h3 (lin (o - 1) f i) r (by rw [hfl]; exact List.mem_cons_self)
    refine ⟨fun s => ?_, fun s x hx => ?_, fun c x hx => ?_, fun c => ?_⟩
    · simp only [tr_f]
      by_cases hz : s = spt o i
      · rw [hz, upw_eq]
        exact Nat.lt_of_lt_of_le (Nat.mod_lt _ (by omega)) p3
      · rw [upw_ne hz]; exact h1 s
    · simp only [tr_f] at hx
      by_cases hz : s = spt o i
      · rw [hz, upw_eq, List.mem_map] at hx
        obtain ⟨y, -, rfl⟩ := hx
        exact hr
      · rw [upw_ne hz] at hx; exact h2 s x hx
    · simp only [tr_f] at hx
      by_cases hz : c = lin (o - 1) f i
      · rw [hz, upw_eq] at hx
        exact h3 _ x (by rw [hfl]; exact List.mem_cons_of_mem _ hx)
      · rw [upw_ne hz] at hx; exact h3 c x hx
    · simp only [tr_f]
      by_cases hz : c = lin (o - 1) f i
      · rw [hz, upw_eq]; exact h4 _
      · rw [upw_ne hz]; exact h4 c
  · intro h1o D' f q hI' hP hl hH hf hb hq
    obtain ⟨h1, h2, h3, h4⟩ := hP
    have p1 := hE.p1 (o := o - 1) (by have := hs.1; omega)
    have p3 := hE.p3 (o := o - 1) (by have := hs.1; omega)
    have fin : ∀ D2 : Dy, dC D2 = upw (dC D') (lin (o - 1) f i) (q, (dC D' (lin (o - 1) f i)).2) → dL D2 = dL D' → dP D2 = upw (dP D') (spt o i) ((f + 1) % eP E (o - 1)) → Bd E D2 lo ag := by
      intro D2 eC eL eP'
      refine ⟨fun s => ?_, fun s x hx => by rw [eL] at hx; exact h2 s x hx, fun c x hx => ?_, fun c => ?_⟩
      · rw [eP']
        by_cases hz : s = spt o i
        · rw [hz, upw_eq]
          exact Nat.lt_of_lt_of_le (Nat.mod_lt _ (by omega)) p3
        · rw [upw_ne hz]; exact h1 s
      · rw [eC] at hx
        by_cases hz : c = lin (o - 1) f i
        · rw [hz, upw_eq] at hx
          refine h3 (lin (o - 1) f i) x ?_
          simp only [flatH, hq, flatQ] at hx ⊢
          exact hx
        · rw [upw_ne hz] at hx; exact h3 c x hx
      · rw [eC]
        by_cases hz : c = lin (o - 1) f i
        · rw [hz, upw_eq]; exact h4 _
        · rw [upw_ne hz]; exact h4 c
    by_cases hful : (dS D' (spt o i) ||| 1 <<< f) = 2 ^ eP E (o - 1) - 1
    · by_cases hz : o = eN E + 1
      · refine fin _ ?_ ?_ ?_ <;> simp only [tbs_f E D' o i f q hful hz]
      · refine fin _ ?_ ?_ ?_ <;> simp only [tbf_f E D' o i f q hful hz]
    · refine fin _ ?_ ?_ ?_ <;> simp only [tbn_f E D' o i f q hful]
theorem Bd_grow (h : Bd E D lo ag) : Bd E (growA E D) lo (ag + 1) := by
  obtain ⟨h1, h2, h3, h4⟩ := h
  refine ⟨h1, h2, fun c x hx => ?_, fun c => ?_⟩
  · simp only [grow_f] at hx
    rw [flatH_grow.1] at hx
    exact h3 c x hx
  · simp only [grow_f]
    exact Nat.le_trans flatH_grow.2 (by have := h4 c; omega)
theorem sendL_N (s : Nat) : ∀ (l : List Rec) (D : Dy), dN (sendL E o i l D).2 s ≤ dN D s + l.length
  | [], D => by unfold sendL; simp
  | r :: l, D => by
    unfold sendL
    split
    · refine Nat.le_trans (sendL_N s l _) ?_
      simp only [put_f, List.length_cons]
      by_cases hz : s = spt o i
      · rw [hz, upw_eq]
        split <;> omega
      · rw [upw_ne hz]; omega
    · simp
theorem sends_N (s : Nat) (hI : Inv E D) (hs : vS E o i) : dN (sends E D o i).2 s ≤ dN D s + 3 := by
  have h3 := (hI.2.2.1 o i hs).1
  have h := sendL_N (E := E) (o := o) (i := i) s (dL D (spt o i)) D
  unfold sends
  simp only
  split
  · unfold sendB
    split
    · split
      · exact Nat.le_trans h (by omega)
      · simp only [bar_f]
        exact Nat.le_trans h (by omega)
    · exact Nat.le_trans h (by omega)
  · exact Nat.le_trans h (by omega)
theorem takes_N (s : Nat) : dN (takes E D o i).2 s = dN D s := by
  unfold takes
  split
  · split
    · rfl
    · simp only [src_f]
  · split
    · rfl
    · rename_i f _
      split
      · rename_i q hq
        by_cases hful : (dS D (spt o i) ||| 1 <<< f) = 2 ^ eP E (o - 1) - 1
        · by_cases hz : o = eN E + 1
          · simp only [tbs_f E D o i f q hful hz]
          · simp only [tbf_f E D o i f q hful hz]
        · simp only [tbn_f E D o i f q hful]
      · simp only [tr_f]
      · rfl
theorem works_N (hE : okE E) (hs : vS E o i) (s : Nat) : ∀ (b : Nat) (D : Dy), Inv E D → dN (works E o i b D) s ≤ dN D s + 3 * (b + 1)
  | 0, D, hI => by
    have h := sends_N (E := E) (D := D) s hI hs
    unfold works
    simp only
    split
    · exact h
    · exact h
  | b + 1, D, hI => by
    have h := sends_N (E := E) (D := D) s hI hs
    obtain ⟨a1, -, a3, -⟩ := sends_ind hE hs (fun _ => True) (fun _ _ _ _ _ _ _ _ => trivial) (fun _ _ _ _ _ _ _ => trivial) D hI trivial
    unfold works
    simp only
    split
    · rename_i hr
      obtain ⟨e1, -⟩ := takes_ind hE hs (fun _ => True) (fun _ _ _ _ _ _ _ _ _ => trivial) (fun _ _ _ _ _ _ _ _ _ _ _ _ _ => trivial) (fun _ _ _ _ _ _ _ _ _ _ _ => trivial) _ a1 trivial (a3 hr).1 (a3 hr).2
      split
      · have := works_N hE hs s b _ e1
        rw [takes_N] at this
        omega
      · show dN (takes E (sends E D o i).2 o i).2 s ≤ _
        rw [takes_N]
        omega
    · show dN (sends E D o i).2 s ≤ _
      omega
/-- in a tick each instance works once -/
theorem workO_N (hE : okE E) (ho : o ≤ eN E + 1) (s : Nat) : ∀ (m : Nat) (D : Dy), m ≤ eP E o → Inv E D → dN (workO E o m D) s ≤ dN D s + 18 * m
  | 0, D, _, _ => Nat.le_refl _
  | m + 1, D, hm, hI => by
    have h := workO_N hE ho s m D (by omega) hI
    obtain ⟨a1, -⟩ := workO_ind hE ho (fun _ => True) (fun _ _ _ _ _ => trivial) m D (by omega) hI trivial
    have h2 := works_N hE ⟨ho, by omega⟩ s (eR E) _ a1 (i := m)
    have h5 := hE.2.2.2.2.2.2.2.2.2.2.1.2
    show dN (works E o m (eR E) (workO E o m D)) s ≤ _
    omega
theorem workA_N (hE : okE E) (s : Nat) : ∀ (m : Nat) (D : Dy), m ≤ eN E + 2 → Inv E D → dN (workA E m D) s ≤ dN D s + 54 * m
  | 0, D, _, _ => Nat.le_refl _
  | m + 1, D, hm, hI => by
    have h := workO_N hE (o := m) (by omega) s (eP E m) D (Nat.le_refl _) hI
    obtain ⟨a1, -⟩ := workO_ind hE (o := m) (by omega) (fun _ => True) (fun _ _ _ _ _ => trivial) (eP E m) D (Nat.le_refl _) hI trivial
    have h2 := workA_N hE s m _ (by omega) a1
    have p3 := hE.p3 (o := m) (by omega)
    show dN (workA E m (workO E m (eP E m) D)) s ≤ _
    omega
end
