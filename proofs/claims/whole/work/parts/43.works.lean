/-! THE PURE MACHINE: the working of an instance, move by move -/
section
variable {E : Env} {D : Dy} {o i f : Nat}
theorem src_of_list (hE : okE E) (h : Inv E D) (hs : vS E o i) (hl : dL D (spt o i) ≠ []) : o ≤ eN E := by
  refine Decidable.byContradiction (fun hz => hl (h.2.2.2.1 (spt o i) (fun o' i' ho' hi' => ?_)).1)
  exact spt_ne (hs.i3 hE) (Nat.lt_of_lt_of_le hi' (hE.p3 (by omega))) (by omega)
theorem src_of_hold (hE : okE E) (h : Inv E D) (hs : vS E o i) (hl : dH D (spt o i) = true) : o ≤ eN E := by
  refine Decidable.byContradiction (fun hz => ?_)
  have := (h.2.2.2.1 (spt o i) (fun o' i' ho' hi' => spt_ne (hs.i3 hE) (Nat.lt_of_lt_of_le hi' (hE.p3 (by omega))) (by omega))).2
  rw [hl] at this
  cases this
theorem refus_none (hr : refus E D o i = none) : ∀ j, j < eP E (o + 1) → tkB (eC E) (dC D (lin o i j)) = true := fun j hj => by
  unfold refus at hr
  rw [List.find?_eq_none] at hr
  have := hr j (List.mem_range.mpr hj)
  simpa using this
theorem refus_some {j : Nat} (hr : refus E D o i = some j) : j < eP E (o + 1) ∧ tkB (eC E) (dC D (lin o i j)) = false := by
  unfold refus at hr
  refine ⟨List.mem_range.mp (List.mem_of_find?_eq_some hr), ?_⟩
  have := List.find?_some hr
  simpa using this
theorem ready_some (hE : okE E) (h : Inv E D) (h1o : 1 ≤ o) (hs : vS E o i) (hr : ready E D o i = some f) : f < eP E (o - 1) ∧ bit (dS D (spt o i)) f = 0 ∧ (dC D (lin (o - 1) f i)).1 ≠ [] := by
  unfold ready at hr
  have hm := List.mem_of_find?_eq_some hr
  have hp := List.find?_some hr
  rw [List.mem_map] at hm
  obtain ⟨k, hk, rfl⟩ := hm
  have p1 := hE.p1 (o := o - 1) (by have := hs.1; omega)
  have p3 := hE.p3 (o := o - 1) (by have := hs.1; omega)
  have hlt : (dP D (spt o i) + k) % eP E (o - 1) < eP E (o - 1) := Nat.mod_lt _ (by omega)
  simp only [Bool.and_eq_true, Bool.not_eq_true', List.isEmpty_eq_false_iff] at hp
  have hm := (h.2.2.1 o i hs).2.2 h1o
  have h28 : (2 : Nat) ^ eP E (o - 1) ≤ 2 ^ 3 := Nat.pow_le_pow_right (by omega) p3
  have ht := mask_tb ⟨dS D (spt o i), by omega⟩ ⟨(dP D (spt o i) + k) % eP E (o - 1), by omega⟩
  simp only at ht
  rw [hp.1] at ht
  refine ⟨hlt, ?_, hp.2⟩
  have h1 := bit_lt (m := dS D (spt o i)) (f := (dP D (spt o i) + k) % eP E (o - 1))
  have h2 : ¬ bit (dS D (spt o i)) ((dP D (spt o i) + k) % eP E (o - 1)) = 1 := of_decide_eq_false ht.symm
  omega
theorem ready_none (hE : okE E) (h : Inv E D) (h1o : 1 ≤ o) (hs : vS E o i) (hr : ready E D o i = none) (hf : f < eP E (o - 1)) (hb : bit (dS D (spt o i)) f = 0) : (dC D (lin (o - 1) f i)).1 = [] := by
  have p1 := hE.p1 (o := o - 1) (by have := hs.1; omega)
  have p3 := hE.p3 (o := o - 1) (by have := hs.1; omega)
  unfold ready at hr
  rw [List.find?_eq_none] at hr
  have hm := (h.2.2.1 o i hs).2.2 h1o
  have h28 : (2 : Nat) ^ eP E (o - 1) ≤ 2 ^ 3 := Nat.pow_le_pow_right (by omega) p3
  have key : f ∈ (List.range (eP E (o - 1))).map fun k => (dP D (spt o i) + k) % eP E (o - 1) := by
    rw [List.mem_map]
    refine ⟨(f + (eP E (o - 1) - dP D (spt o i) % eP E (o - 1))) % eP E (o - 1), List.mem_range.mpr (Nat.mod_lt _ (by omega)), ?_⟩
    have hx : dP D (spt o i) % eP E (o - 1) < eP E (o - 1) := Nat.mod_lt _ (by omega)
    rw [Nat.add_mod, Nat.mod_mod, ← Nat.add_mod]
    generalize dP D (spt o i) = x at *
    generalize eP E (o - 1) = p at *
    rcases (by omega : p = 1 ∨ p = 2 ∨ p = 3) with rfl | rfl | rfl <;> omega
  have := hr f key
  have ht := mask_tb ⟨dS D (spt o i), by omega⟩ ⟨f, by omega⟩
  simp only at ht
  rw [hb] at ht
  simp only [ht, Bool.and_eq_true, Bool.not_eq_true'] at this
  simpa using this
/-- the list's sending: where it stops -/
theorem sendL_ind (hE : okE E) (hs : vS E o i) (P : Dy → Prop)
    (hput : ∀ D r l, Inv E D → P D → o ≤ eN E → dL D (spt o i) = r :: l → tkR (eS E) (eC E) (dC D (lin o i (goal E D o i r.1))) = true → P (mvPut E D o i r l)) :
    ∀ (l : List Rec) (D : Dy), dL D (spt o i) = l → Inv E D → P D → Inv E (sendL E o i l D).2 ∧ P (sendL E o i l D).2 ∧ ((sendL E o i l D).1 = true → dL (sendL E o i l D).2 (spt o i) = []) ∧ ((sendL E o i l D).1 = false → ∃ r l', dL (sendL E o i l D).2 (spt o i) = r :: l' ∧ tkR (eS E) (eC E) (dC (sendL E o i l D).2 (lin o i (goal E (sendL E o i l D).2 o i r.1))) = false)
  | [], D, hl, hI, hP => ⟨hI, hP, fun _ => hl, fun z => by cases z⟩
  | r :: l, D, hl, hI, hP => by
    have ho := src_of_list hE hI hs (by rw [hl]; simp)
    unfold sendL
    by_cases ht : tkR (eS E) (eC E) (dC D (lin o i (goal E D o i r.1))) = true
    · rw [if_pos ht]
      exact sendL_ind hE hs P hput l (mvPut E D o i r l) (by simp only [put_f]; exact upw_eq) (Inv_put hE hI ho hs.2 hl ht) (hput D r l hI hP ho hl ht)
    · rw [if_neg ht]
      exact ⟨hI, hP, fun z => (by cases z), fun _ => ⟨r, l, hl, by simpa using ht⟩⟩
theorem sends_ind (hE : okE E) (hs : vS E o i) (P : Dy → Prop)
    (hput : ∀ D r l, Inv E D → P D → o ≤ eN E → dL D (spt o i) = r :: l → tkR (eS E) (eC E) (dC D (lin o i (goal E D o i r.1))) = true → P (mvPut E D o i r l))
    (hbar : ∀ D, Inv E D → P D → o ≤ eN E → dL D (spt o i) = [] → dH D (spt o i) = true → (∀ j, j < eP E (o + 1) → tkB (eC E) (dC D (lin o i j)) = true) → P (mvBar E D o i))
    (D : Dy) (hI : Inv E D) (hP : P D) : Inv E (sends E D o i).2 ∧ P (sends E D o i).2 ∧ ((sends E D o i).1 = true → dL (sends E D o i).2 (spt o i) = [] ∧ dH (sends E D o i).2 (spt o i) = false) ∧ ((sends E D o i).1 = false → (∃ r l', dL (sends E D o i).2 (spt o i) = r :: l' ∧ tkR (eS E) (eC E) (dC (sends E D o i).2 (lin o i (goal E (sends E D o i).2 o i r.1))) = false) ∨ (dL (sends E D o i).2 (spt o i) = [] ∧ dH (sends E D o i).2 (spt o i) = true ∧ ∃ j, j < eP E (o + 1) ∧ tkB (eC E) (dC (sends E D o i).2 (lin o i j)) = false)) := by
  obtain ⟨a1, a2, a3, a4⟩ := sendL_ind hE hs P hput _ D rfl hI hP
  unfold sends
  simp only
  by_cases hr : (sendL E o i (dL D (spt o i)) D).1 = true
  · rw [if_pos hr]
    have hl := a3 hr
    generalize (sendL E o i (dL D (spt o i)) D).2 = D1 at *
    unfold sendB
    by_cases hh : dH D1 (spt o i) = true
    · rw [if_pos hh]
      have ho := src_of_hold hE a1 hs hh
      cases hf : refus E D1 o i with
      | some j => exact ⟨a1, a2, fun z => (by cases z), fun _ => Or.inr ⟨hl, hh, j, refus_some hf⟩⟩
      | none =>
        have ht := refus_none hf
        exact ⟨Inv_bar hE a1 ho hs.2 hh ht, hbar D1 a1 a2 ho hl hh ht, fun _ => ⟨by simp only [bar_f]; exact hl, by simp only [bar_f]; exact upw_eq⟩, fun z => by cases z⟩
    · rw [if_neg hh]
      exact ⟨a1, a2, fun _ => ⟨hl, by simpa using hh⟩, fun z => by cases z⟩
  · rw [if_neg hr]
    exact ⟨a1, a2, fun z => absurd z hr, fun z => Or.inl (a4 z)⟩
theorem takes_ind (hE : okE E) (hs : vS E o i) (P : Dy → Prop)
    (hsrc : o = 0 → i = 0 → ∀ D r, Inv E D → P D → dL D 0 = [] → dH D 0 = false → (eI E)[dO D]? = some r → P (mvSrc E D r))
    (htr : 1 ≤ o → ∀ D f r l q, Inv E D → P D → dL D (spt o i) = [] → dH D (spt o i) = false → f < eP E (o - 1) → bit (dS D (spt o i)) f = 0 → (dC D (lin (o - 1) f i)).1 = some (r :: l) :: q → P (mvTR E D o i f r l q))
    (htb : 1 ≤ o → ∀ D f q, Inv E D → P D → dL D (spt o i) = [] → dH D (spt o i) = false → f < eP E (o - 1) → bit (dS D (spt o i)) f = 0 → (dC D (lin (o - 1) f i)).1 = none :: q → P (mvTB E D o i f q))
    (D : Dy) (hI : Inv E D) (hP : P D) (hl : dL D (spt o i) = []) (hh : dH D (spt o i) = false) : Inv E (takes E D o i).2 ∧ P (takes E D o i).2 := by
  unfold takes
  by_cases ho : o = 0
  · rw [if_pos ho]
    subst ho
    have hi : i = 0 := by have := hs.2; rw [hE.2.2.1] at this; omega
    subst hi
    cases hr : (eI E)[dO D]? with
    | none => exact ⟨hI, hP⟩
    | some r => exact ⟨Inv_src hE hI hr, hsrc rfl rfl D r hI hP hl hh hr⟩
  · rw [if_neg ho]
    cases hr : ready E D o i with
    | none => exact ⟨hI, hP⟩
    | some f =>
      obtain ⟨b1, b2, b3⟩ := ready_some hE hI (by omega) hs hr
      simp only
      split
      · rename_i q hq
        exact ⟨Inv_tb hE hI (by omega) hs.1 hs.2 b1 hq, htb (by omega) D f q hI hP hl hh b1 b2 hq⟩
      · rename_i r l q hq
        exact ⟨Inv_tr hE hI (by omega) hs.1 hs.2 b1 hq, htr (by omega) D f r l q hI hP hl hh b1 b2 hq⟩
      · exact ⟨hI, hP⟩
theorem works_ind (hE : okE E) (hs : vS E o i) (P : Dy → Prop)
    (hput : ∀ D r l, Inv E D → P D → o ≤ eN E → dL D (spt o i) = r :: l → tkR (eS E) (eC E) (dC D (lin o i (goal E D o i r.1))) = true → P (mvPut E D o i r l))
    (hbar : ∀ D, Inv E D → P D → o ≤ eN E → dL D (spt o i) = [] → dH D (spt o i) = true → (∀ j, j < eP E (o + 1) → tkB (eC E) (dC D (lin o i j)) = true) → P (mvBar E D o i))
    (hsrc : o = 0 → i = 0 → ∀ D r, Inv E D → P D → dL D 0 = [] → dH D 0 = false → (eI E)[dO D]? = some r → P (mvSrc E D r))
    (htr : 1 ≤ o → ∀ D f r l q, Inv E D → P D → dL D (spt o i) = [] → dH D (spt o i) = false → f < eP E (o - 1) → bit (dS D (spt o i)) f = 0 → (dC D (lin (o - 1) f i)).1 = some (r :: l) :: q → P (mvTR E D o i f r l q))
    (htb : 1 ≤ o → ∀ D f q, Inv E D → P D → dL D (spt o i) = [] → dH D (spt o i) = false → f < eP E (o - 1) → bit (dS D (spt o i)) f = 0 → (dC D (lin (o - 1) f i)).1 = none :: q → P (mvTB E D o i f q))
    (hblk : ∀ D, P D → P (blk D o)) (hidl : ∀ D, P D → P (idl D o)) :
    ∀ (b : Nat) (D : Dy), Inv E D → P D → Inv E (works E o i b D) ∧ P (works E o i b D)
  | 0, D, hI, hP => by
    obtain ⟨a1, a2, a3, a4⟩ := sends_ind hE hs P hput hbar D hI hP
    unfold works
    simp only
    split
    · exact ⟨a1, a2⟩
    · exact ⟨Inv_blk a1 o, hblk _ a2⟩
  | b + 1, D, hI, hP => by
    obtain ⟨a1, a2, a3, a4⟩ := sends_ind hE hs P hput hbar D hI hP
    unfold works
    simp only
    split
    · rename_i hr
      obtain ⟨c1, c2⟩ := takes_ind hE hs P hsrc htr htb _ a1 a2 (a3 hr).1 (a3 hr).2
      split
      · exact works_ind hE hs P hput hbar hsrc htr htb hblk hidl b _ c1 c2
      · exact ⟨Inv_idl c1 o, hidl _ c2⟩
    · exact ⟨Inv_blk a1 o, hblk _ a2⟩
/-- how an instance stands behind its working -/
def TIi (E : Env) (D : Dy) (o i : Nat) : Prop := (∀ r l, dL D (spt o i) = r :: l → tkR (eS E) (eC E) (dC D (lin o i (goal E D o i r.1))) = false) ∧ (dH D (spt o i) = true → 1 ≤ o → dL D (spt o i) = [] → ∃ j, j < eP E (o + 1) ∧ tkB (eC E) (dC D (lin o i j)) = false)
theorem TIi_true (h1 : dL D (spt o i) = []) (h2 : dH D (spt o i) = false) : TIi E D o i := ⟨fun r l z => (by rw [h1] at z; cases z), fun z => (by rw [h2] at z; cases z)⟩
theorem takes_keep (hr : (takes E D o i).1 = false) : (takes E D o i).2 = D := by
  unfold takes at hr ⊢
  by_cases ho : o = 0
  · rw [if_pos ho] at hr ⊢
    cases hq : (eI E)[dO D]? with
    | none => rfl
    | some r => rw [hq] at hr; cases hr
  · rw [if_neg ho] at hr ⊢
    cases hq : ready E D o i with
    | none => rfl
    | some f =>
      rw [hq] at hr
      simp only at hr ⊢
      split
      · rename_i q e; rw [e] at hr; cases hr
      · rename_i r l q e; rw [e] at hr; cases hr
      · rfl
theorem works_TI (hE : okE E) (hs : vS E o i) : ∀ (b : Nat) (D : Dy), Inv E D → TIi E (works E o i b D) o i
  | 0, D, hI => by
    obtain ⟨a1, a2, a3, a4⟩ := sends_ind hE hs (fun _ => True) (fun _ _ _ _ _ _ _ _ => trivial) (fun _ _ _ _ _ _ _ => trivial) D hI trivial
    unfold works
    simp only
    split
    · rename_i hr
      exact TIi_true (a3 hr).1 (a3 hr).2
    · rename_i hr
      rcases a4 (by simpa using hr) with ⟨r, l, c1, c2⟩ | ⟨c1, c2, c3⟩
      · refine ⟨fun r' l' z => ?_, fun _ _ z => ?_⟩
        · have z' : dL (sends E D o i).2 (spt o i) = r' :: l' := z
          rw [c1] at z'
          cases z'
          exact c2
        · have z' : dL (sends E D o i).2 (spt o i) = [] := z
          rw [c1] at z'
          cases z'
      · refine ⟨fun r' l' z => ?_, fun _ _ _ => c3⟩
        have z' : dL (sends E D o i).2 (spt o i) = r' :: l' := z
        rw [c1] at z'
        cases z'
  | b + 1, D, hI => by
    obtain ⟨a1, a2, a3, a4⟩ := sends_ind hE hs (fun _ => True) (fun _ _ _ _ _ _ _ _ => trivial) (fun _ _ _ _ _ _ _ => trivial) D hI trivial
    unfold works
    simp only
    split
    · rename_i hr
      obtain ⟨e1, e2⟩ := takes_ind hE hs (fun _ => True) (fun _ _ _ _ _ _ _ _ _ => trivial) (fun _ _ _ _ _ _ _ _ _ _ _ _ _ => trivial) (fun _ _ _ _ _ _ _ _ _ _ _ => trivial) _ a1 trivial (a3 hr).1 (a3 hr).2
      split
      · exact works_TI hE hs b _ e1
      · rename_i ht
        have hk := takes_keep (by simpa using ht : (takes E (sends E D o i).2 o i).1 = false)
        rw [hk]
        exact TIi_true (a3 hr).1 (a3 hr).2
    · rename_i hr
      rcases a4 (by simpa using hr) with ⟨r, l, c1, c2⟩ | ⟨c1, c2, c3⟩
      · refine ⟨fun r' l' z => ?_, fun _ _ z => ?_⟩
        · have z' : dL (sends E D o i).2 (spt o i) = r' :: l' := z
          rw [c1] at z'
          cases z'
          exact c2
        · have z' : dL (sends E D o i).2 (spt o i) = [] := z
          rw [c1] at z'
          cases z'
      · refine ⟨fun r' l' z => ?_, fun _ _ _ => c3⟩
        have z' : dL (sends E D o i).2 (spt o i) = r' :: l' := z
        rw [c1] at z'
        cases z'
end
