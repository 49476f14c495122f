/-! THE PURE MACHINE: ages; a tick that isn't quiet brings the measure down -/
def maxN : Nat → (Nat → Nat) → Nat
  | 0, _ => 0
  | n + 1, f => max (maxN n f) (f n)
def agP (h : Ch) : Nat := if h.2.1 = [] then 0 else 9 - h.2.2
def mAg (D : Dy) (k : Nat) : Nat := maxN 9 fun x => agP (dC D (9 * k + x))
def upE (E : Env) (D : Dy) (k : Nat) : Prop := (eI E).length ≤ dO D ∧ (∀ s, s < 3 * (k + 1) → dL D s = []) ∧ (∀ c, c < 9 * k → csz (dC D c) = 0)
noncomputable def dAg (E : Env) (D : Dy) (k : Nat) : Nat := @ite Nat (upE E D k) (Classical.propDecidable _) (mAg D k) 9
noncomputable def phi (E : Env) (D : Dy) : Nat := wt E D + sumN 5 (dAg E D)
section
variable {E : Env} {D : Dy} {o i f k : Nat}
theorem maxN_le : ∀ {n : Nat} {g : Nat → Nat} {b : Nat}, (∀ x, x < n → g x ≤ b) → maxN n g ≤ b
  | 0, _, _, _ => Nat.zero_le _
  | n + 1, g, b, h => by
    have h1 := maxN_le (n := n) (g := g) (b := b) (fun x hx => h x (by omega))
    have h2 := h n (by omega)
    simp only [maxN]
    omega
theorem le_maxN : ∀ {n : Nat} {g : Nat → Nat} {x : Nat}, x < n → g x ≤ maxN n g
  | 0, _, _, h => by omega
  | n + 1, g, x, h => by
    simp only [maxN]
    by_cases hz : x = n
    · subst hz; omega
    · have := le_maxN (n := n) (g := g) (x := x) (by omega)
      omega
theorem agP_le {h : Ch} : agP h ≤ 9 := by unfold agP; split <;> omega
theorem mAg_le : mAg D k ≤ 9 := maxN_le (fun _ _ => agP_le)
theorem dAg_le : dAg E D k ≤ 9 := by
  unfold dAg
  split
  · exact mAg_le
  · exact Nat.le_refl _
theorem dAg_pos (h : upE E D k) : dAg E D k = mAg D k := by unfold dAg; exact if_pos h
/-- behind an emptied stretch nothing new is put: what stands there stays or is closed -/
def stay (D0 D : Dy) (k : Nat) : Prop := ∀ x, x < 9 → (dC D (9 * k + x)).2.1 = [] ∨ ((dC D (9 * k + x)).2.1 = (dC D0 (9 * k + x)).2.1 ∧ (dC D0 (9 * k + x)).2.2 ≤ (dC D (9 * k + x)).2.2)
theorem stay_rf : stay D D k := fun _ _ => Or.inr ⟨rfl, Nat.le_refl _⟩
theorem stay_mAg {D0 : Dy} (h : stay D0 D k) : mAg D k ≤ mAg D0 k := maxN_le (fun x hx => by
  refine Nat.le_trans ?_ (le_maxN (n := 9) (g := fun x => agP (dC D0 (9 * k + x))) hx)
  unfold agP
  rcases h x hx with h | ⟨h1, h2⟩
  · rw [if_pos h]; omega
  · rw [h1]
    split <;> omega)
theorem stay_tr {D0 D1 : Dy} (h1 : stay D0 D1 k) (h2 : stay D1 D k) : stay D0 D k := fun x hx => by
  rcases h2 x hx with a | ⟨a, b⟩
  · exact Or.inl a
  · rcases h1 x hx with c | ⟨c, d⟩
    · exact Or.inl (by rw [a]; exact c)
    · exact Or.inr ⟨by rw [a]; exact c, by omega⟩
theorem up_works (hE : okE E) (hs : vS E o i) (b : Nat) {D0 : Dy} (hI : Inv E D) (hu : upE E D k) (hst : stay D0 D k) : upE E (works E o i b D) k ∧ stay D0 (works E o i b D) k := by
  have i3 := hs.i3 hE
  refine (works_ind hE hs (fun D' => upE E D' k ∧ stay D0 D' k) ?_ ?_ ?_ ?_ ?_ (fun _ h => h) (fun _ h => h) b D hI ⟨hu, hst⟩).2
  · intro D' r l hI' hP hon hl ht
    obtain ⟨⟨u1, u2, u3⟩, st⟩ := hP
    have g3 : goal E D' o i r.1 < 3 := Nat.lt_of_lt_of_le (goal_lt hE hon) (hE.p3 (by omega))
    have hk : k + 1 ≤ o := by
      refine Decidable.byContradiction (fun hz => ?_)
      rw [u2 (spt o i) (by unfold spt; omega)] at hl
      cases hl
    refine ⟨⟨u1, fun s hs' => ?_, fun c hc => ?_⟩, fun x hx => ?_⟩ <;> simp only [put_f]
    · rw [upw_ne (by unfold spt; omega)]; exact u2 s hs'
    · rw [upw_ne (by unfold lin; omega)]; exact u3 c hc
    · rw [upw_ne (by unfold lin; omega)]; exact st x hx
  · intro D' hI' hP hon hl hH ht
    obtain ⟨⟨u1, u2, u3⟩, st⟩ := hP
    have p3 := hE.p3 (o := o + 1) (by omega)
    have hc' : ∀ c, csz (barC E D' o i c) = csz (dC D' c) := fun c => by
      by_cases hz : ∃ o' i' j', vC E o' i' j' ∧ c = lin o' i' j'
      · obtain ⟨o', i', j', v, rfl⟩ := hz
        rw [barC_at hE hon hs.2 v]
        split
        · rename_i hx
          obtain ⟨rfl, rfl⟩ := hx
          exact (putB_ok (hI'.1 _ _ _ v).1 (ht _ v.2.2)).2.2.1
        · rfl
      · rw [barC_no hE hon hs.2 (fun o' i' j' v e => hz ⟨o', i', j', v, e⟩)]
    refine ⟨⟨u1, u2, fun c hc => ?_⟩, fun x hx => ?_⟩ <;> simp only [bar_f]
    · rw [hc']; exact u3 c hc
    · unfold barC
      split
      · rename_i hz
        refine Or.inl ?_
        have e : 9 * k + x = lin o i (9 * k + x - lin o i 0) := by unfold lin at *; omega
        have v : vC E o i (9 * k + x - lin o i 0) := ⟨hon, hs.2, by unfold lin at *; omega⟩
        rw [e]
        exact (putB_ok (hI'.1 _ _ _ v).1 (ht _ v.2.2)).2.2.2
      · exact st x hx
  · intro ho0 hi0 D' r hI' hP hl hH hr
    have := (List.getElem?_eq_some_iff.mp hr).1
    have := hP.1.1
    omega
  · intro h1o D' f' r l q hI' hP hl hH hf' hb hq
    obtain ⟨⟨u1, u2, u3⟩, st⟩ := hP
    have f3' : f' < 3 := Nat.lt_of_lt_of_le hf' (hE.p3 (by have := hs.1; omega))
    have hk : k ≤ o - 1 := by
      refine Decidable.byContradiction (fun hz => ?_)
      have := u3 (lin (o - 1) f' i) (by unfold lin; omega)
      simp [csz, hq, nrec] at this
    refine ⟨⟨by simp only [tr_f]; exact u1, fun s hs' => ?_, fun c hc => ?_⟩, fun x hx => ?_⟩ <;> simp only [tr_f]
    · rw [upw_ne (by unfold spt; omega)]; exact u2 s hs'
    · rw [upw_ne (by unfold lin; omega)]; exact u3 c hc
    · by_cases hc : 9 * k + x = lin (o - 1) f' i
      · rw [hc, upw_eq]
        have := st x hx
        rw [hc] at this
        exact this
      · rw [upw_ne hc]; exact st x hx
  · intro h1o D' f' q hI' hP hl hH hf' hb hq
    obtain ⟨⟨u1, u2, u3⟩, st⟩ := hP
    have fin : ∀ D2 : Dy, dC D2 = upw (dC D') (lin (o - 1) f' i) (q, (dC D' (lin (o - 1) f' i)).2) → dL D2 = dL D' → dO D2 = dO D' → upE E D2 k ∧ stay D0 D2 k := by
      intro D2 eC eL eO
      refine ⟨⟨by rw [eO]; exact u1, fun s hs' => by rw [eL]; exact u2 s hs', fun c hc => ?_⟩, fun x hx => ?_⟩ <;> rw [eC]
      · by_cases hc' : c = lin (o - 1) f' i
        · have := u3 c hc
          rw [hc', upw_eq]
          rw [hc'] at this
          simp only [csz, hq, nrec] at this ⊢
          exact this
        · rw [upw_ne hc']; exact u3 c hc
      · by_cases hc : 9 * k + x = lin (o - 1) f' i
        · rw [hc, upw_eq]
          have := st x hx
          rw [hc] at this
          exact this
        · rw [upw_ne hc]; exact st x hx
    by_cases hful : (dS D' (spt o i) ||| 1 <<< f') = 2 ^ eP E (o - 1) - 1
    · by_cases hz : o = eN E + 1
      · refine fin _ ?_ ?_ ?_ <;> simp only [tbs_f E D' o i f' q hful hz]
      · refine fin _ ?_ ?_ ?_ <;> simp only [tbf_f E D' o i f' q hful hz]
    · refine fin _ ?_ ?_ ?_ <;> simp only [tbn_f E D' o i f' q hful]
theorem up_workA (hE : okE E) {m : Nat} (hm : m ≤ eN E + 2) (hI : Inv E D) (hu : upE E D k) : upE E (workA E m D) k ∧ stay D (workA E m D) k :=
  (workA_ind hE (fun D' => upE E D' k ∧ stay D D' k) (fun o i D' ho hi hI' hP => up_works hE ⟨ho, hi⟩ _ hI' hP.1 hP.2) m D hm hI ⟨hu, stay_rf⟩).2
theorem up_grow (hu : upE E D k) : upE E (growA E D) k ∧ stay D (growA E D) k := by
  refine ⟨⟨hu.1, hu.2.1, fun c hc => by simp only [grow_f, grow_csz]; exact hu.2.2 c hc⟩, fun x hx => ?_⟩
  simp only [grow_f]
  unfold grow
  split
  · rename_i h; exact Or.inl h
  · split
    · exact Or.inl rfl
    · exact Or.inr ⟨rfl, Nat.le_succ _⟩
theorem dAg_tick (hE : okE E) (hI : Inv E D) : dAg E (tickD E D) k ≤ dAg E D k := by
  by_cases hu : upE E D k
  · obtain ⟨g1, g2⟩ := up_grow hu
    obtain ⟨a1, a2⟩ := up_workA hE (Nat.le_refl _) (Inv_grow hI) g1
    rw [dAg_pos hu, dAg_pos (D := tickD E D) a1]
    exact stay_mAg (stay_tr g2 a2)
  · have : dAg E D k = 9 := by unfold dAg; exact if_neg hu
    rw [this]
    exact dAg_le
theorem lowest (p : Nat → Prop) : ∀ (n : Nat), p n → ∃ m, m ≤ n ∧ p m ∧ ∀ j, j < m → ¬ p j
  | 0, h => ⟨0, Nat.le_refl _, h, fun j hj => by omega⟩
  | n + 1, h => by
    by_cases hz : ∃ j, j ≤ n ∧ p j
    · obtain ⟨j, hj, hp⟩ := hz
      obtain ⟨m, h1, h2, h3⟩ := lowest p j hp
      exact ⟨m, by omega, h2, h3⟩
    · exact ⟨n + 1, Nat.le_refl _, h, fun j hj hp => hz ⟨j, by omega, hp⟩⟩
def quietD (E : Env) (D : Dy) : Prop := dO D = (eI E).length ∧ eQ E = 0 ∧ (∀ c, (dC D c).1 = [] ∧ (dC D c).2.1 = []) ∧ ∀ s, dL D s = []
/-- a tick of a pipeline that isn't quiet brings the measure down -/
theorem phi_tick (hE : okE E) (hI : Inv E D) (hT : TI E D) (hW : eQ E ≠ 0 → dW D < eP E (eN E + 1)) (hq : ¬ quietD E D) : phi E (tickD E D) < phi E D := by
  have hIg := Inv_grow (E := E) hI
  have hTg := TI_grow hE hT
  have hle : sumN 5 (dAg E (tickD E D)) ≤ sumN 5 (dAg E D) := sumN_le (fun _ _ => dAg_tick hE hI)
  by_cases hn : ∃ o i, vS E o i ∧ En E (growA E D) o i
  · obtain ⟨o, i, hs, hn⟩ := hn
    have := workA_lt hE hs.2 (eN E + 2) _ (Nat.le_refl _) (by have := hs.1; omega) hIg hn
    rw [wt_grow] at this
    unfold phi
    have e : tickD E D = workA E (eN E + 2) (growA E D) := rfl
    rw [e] at hle ⊢
    omega
  · obtain ⟨e1, e2, e3, e4⟩ := Emp_of hE hIg hTg hW hn
    have hwt : wt E (tickD E D) ≤ wt E D := by
      have := (workA_le hE (Nat.le_refl (eN E + 2)) hIg).2
      rw [wt_grow] at this
      exact this
    -- a batch that is filled
    have hfull : ∃ c, (dC D c).2.1 ≠ [] := by
      refine Classical.byContradiction (fun hz => hq ⟨?_, e4, fun c => ?_, e2⟩)
      · have h1 := hI.2.2.2.2.2.2.1
        have h2 : (eI E).length ≤ dO D := e3
        omega
      · have ho : (dC D c).2.1 = [] := Decidable.byContradiction (fun hx => hz ⟨c, hx⟩)
        have := e1 c
        simp only [grow_f] at this
        rw [grow_nil ho] at this
        exact ⟨this, ho⟩
    obtain ⟨c0, hc0⟩ := hfull
    obtain ⟨c1, -, hc1, hlow⟩ := lowest (fun c => (dC D c).2.1 ≠ []) c0 hc0
    obtain ⟨o, i, j, v, rfl⟩ : ∃ o i j, vC E o i j ∧ c1 = lin o i j := by
      refine Classical.byContradiction (fun hz => hc1 (hI.2.1 c1 (fun o i j v e => hz ⟨o, i, j, v, e⟩)).2)
    have i3 := v.i3 hE
    have j3 := v.j3 hE
    have hqe : ∀ c, (dC D c).1 = [] := fun c => by
      have := e1 c
      simp only [grow_f] at this
      unfold grow at this
      split at this
      · exact this
      · split at this
        · simp [clo1] at this
        · exact this
    have hu : upE E D o := ⟨e3, fun s _ => e2 s, fun c hc => by
      have := hlow c (by unfold lin; omega)
      have hx : (dC D c).2.1 = [] := Decidable.byContradiction this
      simp [csz, hqe c, hx, nrec]⟩
    obtain ⟨g1, g2⟩ := up_grow hu
    obtain ⟨a1, a2⟩ := up_workA hE (Nat.le_refl (eN E + 2)) hIg g1
    -- its level's number falls
    have hC : 2 ≤ eC E := hE.2.2.2.2.2.2.2.2.2.1.1
    have hG : eG E ≤ 9 := hE.2.2.2.2.2.2.2.2.1.2
    have hone : ∀ x, agP (dC (growA E D) (9 * o + x)) ≤ agP (dC D (9 * o + x)) - 1 ∧ ((dC D (9 * o + x)).2.1 ≠ [] → 2 ≤ agP (dC D (9 * o + x))) := fun x => by
      simp only [grow_f]
      have hz := e1 (9 * o + x)
      simp only [grow_f] at hz
      unfold grow at hz ⊢
      split
      · rename_i hy
        unfold agP
        rw [if_pos hy]
        exact ⟨by omega, fun h => absurd hy h⟩
      · rename_i hy
        rw [if_neg hy] at hz
        split
        · rename_i hw
          rw [if_pos hw] at hz
          simp [clo1] at hz
        · rename_i hw
          rw [hqe] at hw
          simp only [List.length_nil] at hw
          unfold agP
          rw [if_neg hy, if_neg hy]
          simp only
          exact ⟨by omega, fun _ => by omega⟩
    have hpos : 2 ≤ mAg D o := by
      have h1 := (hone (3 * i + j)).2
      have h2 := le_maxN (n := 9) (g := fun x => agP (dC D (9 * o + x))) (x := 3 * i + j) (by omega)
      have h3 : 9 * o + (3 * i + j) = lin o i j := by unfold lin; omega
      rw [h3] at h1
      simp only [h3] at h2
      exact Nat.le_trans (h1 hc1) h2
    have hlt : mAg (growA E D) o ≤ mAg D o - 1 := maxN_le (fun x hx => by
      have h1 := (hone x).1
      have h2 := le_maxN (n := 9) (g := fun x => agP (dC D (9 * o + x))) hx
      have h3 : maxN 9 (fun x => agP (dC D (9 * o + x))) = mAg D o := rfl
      rw [h3] at h2
      omega)
    have hd : dAg E (tickD E D) o < dAg E D o := by
      rw [dAg_pos hu, dAg_pos (D := tickD E D) a1]
      have := stay_mAg a2
      show mAg (workA E (eN E + 2) (growA E D)) o < _
      omega
    have e := sumN_upd (n := 5) (g := dAg E D) (g' := fun a => if a = o then dAg E (tickD E D) o else dAg E D a) (k := o) (by have := hE.1; have := v.1; omega) (fun a _ hn => if_neg hn)
    have e' : sumN 5 (dAg E (tickD E D)) ≤ sumN 5 (fun a => if a = o then dAg E (tickD E D) o else dAg E D a) := sumN_le (fun a _ => by
      by_cases hz : a = o
      · rw [if_pos hz, hz]; exact Nat.le_refl _
      · rw [if_neg hz]; exact dAg_tick hE hI)
    simp only [if_pos] at e
    unfold phi
    omega
end
