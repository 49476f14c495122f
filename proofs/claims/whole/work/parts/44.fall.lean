/-! THE PURE MACHINE: a measure that falls with every take -/
def wgt : Nat → Nat
  | 0 => 1
  | d + 1 => 1 + 3 * wgt d
def wRc (E : Env) (D : Dy) : Nat := sumN 18 (fun s => (dL D s).length * wgt (eN E - s / 3)) + sumN 54 (fun c => csz (dC D c) * wgt (eN E - c / 9)) + ((eI E).length - dO D) * (1 + wgt (eN E))
def wB1 (E : Env) (D : Dy) (s : Nat) : Nat := if 3 ≤ s ∧ s / 3 ≤ eN E + 1 ∧ s % 3 < eP E (s / 3) ∧ dD D s = false then eP E (s / 3 - 1) - pop3 (dS D s) else 0
def wBr (E : Env) (D : Dy) : Nat := (if eQ E = 0 then 0 else sumN 18 (wB1 E D)) + (if dH D 0 = true then 1 else 0)
def wt (E : Env) (D : Dy) : Nat := wRc E D + wBr E D
section
variable {E : Env} {D : Dy} {o i f : Nat}
theorem wt_blk (o : Nat) : wt E (blk D o) = wt E D := rfl
theorem wt_idl (o : Nat) : wt E (idl D o) = wt E D := rfl
theorem spt_lt {o i : Nat} (ho : o ≤ 5) (hi : i < 3) : spt o i < 18 := by unfold spt; omega
theorem lin_lt {o i j : Nat} (ho : o ≤ 4) (hi : i < 3) (hj : j < 3) : lin o i j < 54 := by unfold lin; omega
theorem spt_div {o i : Nat} (hi : i < 3) : spt o i / 3 = o := by unfold spt; omega
theorem spt_mod {o i : Nat} (hi : i < 3) : spt o i % 3 = i := by unfold spt; omega
theorem lin_div {o i j : Nat} (hi : i < 3) (hj : j < 3) : lin o i j / 9 = o := by unfold lin; omega
theorem wt_put (hE : okE E) (h : Inv E D) (ho : o ≤ eN E) (hi : i < eP E o) {r : Rec} {l : List Rec} (hl : dL D (spt o i) = r :: l) (ht : tkR (eS E) (eC E) (dC D (lin o i (goal E D o i r.1))) = true) : wt E (mvPut E D o i r l) = wt E D := by
  have hg := goal_lt (D := D) (i := i) hE ho (k := r.1)
  have vc : vC E o i (goal E D o i r.1) := ⟨ho, hi, hg⟩
  have i3 := vc.i3 hE
  have g3 := vc.j3 hE
  have o4 : o ≤ 4 := by have := hE.1; omega
  obtain ⟨k1, k2, k3⟩ := putR_ok (r := r) hE.2.2.2.2.2.2.2.1.1 (h.1 _ _ _ vc).1 ht
  have e1 := sumN_upd (n := 18) (g := fun s => (dL D s).length * wgt (eN E - s / 3)) (g' := fun s => (upw (dL D) (spt o i) l s).length * wgt (eN E - s / 3)) (k := spt o i) (spt_lt (by omega) i3) (fun a _ hn => by rw [upw_ne hn])
  have e2 := sumN_upd (n := 54) (g := fun c => csz (dC D c) * wgt (eN E - c / 9)) (g' := fun c => csz (upw (dC D) (lin o i (goal E D o i r.1)) (putR (eS E) (eC E) (dC D (lin o i (goal E D o i r.1))) r) c) * wgt (eN E - c / 9)) (k := lin o i (goal E D o i r.1)) (lin_lt o4 i3 g3) (fun a _ hn => by rw [upw_ne hn])
  simp only [upw_eq, hl, k3, spt_div i3, lin_div i3 g3, List.length_cons, Nat.add_mul, Nat.one_mul] at e1 e2
  have hb : wBr E (mvPut E D o i r l) = wBr E D := rfl
  unfold wt
  rw [hb]
  unfold wRc
  simp only [put_f]
  omega
theorem wt_src {r : Fin 16 × Int32} (hl : dL D 0 = []) (hr : (eI E)[dO D]? = some r) : wt E (mvSrc E D r) < wt E D := by
  have e1 := sumN_upd (n := 18) (g := fun s => (dL D s).length * wgt (eN E - s / 3)) (g' := fun s => (upw (dL D) 0 [(r.1, r.2, eT E)] s).length * wgt (eN E - s / 3)) (k := 0) (by omega) (fun a _ hn => by rw [upw_ne hn])
  have hlt : dO D < (eI E).length := (List.getElem?_eq_some_iff.mp hr).1
  simp [upw_eq, hl] at e1
  have hb : wBr E (mvSrc E D r) = wBr E D := rfl
  unfold wt
  rw [hb]
  unfold wRc
  simp only [src_f]
  obtain ⟨k, hk⟩ : ∃ k, (eI E).length - dO D = k + 1 := ⟨(eI E).length - dO D - 1, by omega⟩
  have hk2 : (eI E).length - (dO D + 1) = k := by omega
  rw [hk, hk2, Nat.add_mul k 1, Nat.one_mul]
  omega
theorem sumN_le : ∀ {n : Nat} {g g' : Nat → Nat}, (∀ k, k < n → g' k ≤ g k) → sumN n g' ≤ sumN n g
  | 0, _, _, _ => Nat.le_refl _
  | n + 1, g, g', h => by
    have := sumN_le (n := n) (g := g) (g' := g') (fun k hk => h k (by omega))
    have := h n (by omega)
    simp only [sumN]
    omega
theorem wt_bar (hE : okE E) (h : Inv E D) (ho : o ≤ eN E) (hi : i < eP E o) (hH : dH D (spt o i) = true) (ht : ∀ j, j < eP E (o + 1) → tkB (eC E) (dC D (lin o i j)) = true) : wt E (mvBar E D o i) ≤ wt E D ∧ (o = 0 → i = 0 → wt E (mvBar E D o i) < wt E D) := by
  have hc : ∀ c, csz (barC E D o i c) = csz (dC D c) := fun c => by
    by_cases hz : ∃ o' i' j', vC E o' i' j' ∧ c = lin o' i' j'
    · obtain ⟨o', i', j', v, rfl⟩ := hz
      rw [barC_at hE ho hi v]
      split
      · rename_i hx
        obtain ⟨rfl, rfl⟩ := hx
        exact (putB_ok (h.1 _ _ _ v).1 (ht _ v.2.2)).2.2.1
      · rfl
    · rw [barC_no hE ho hi (fun o' i' j' v e => hz ⟨o', i', j', v, e⟩)]
  have hr : wRc E (mvBar E D o i) = wRc E D := by
    unfold wRc
    simp only [bar_f, hc]
  have hb : sumN 18 (wB1 E (mvBar E D o i)) = sumN 18 (wB1 E D) := rfl
  have i3 : i < 3 := Nat.lt_of_lt_of_le hi (hE.p3 (by omega))
  unfold wt wBr
  rw [hr, hb]
  simp only [bar_f]
  refine ⟨?_, fun ho' hi' => ?_⟩
  · by_cases hz : spt o i = 0
    · rw [hz, upw_eq]; simp
    · rw [upw_ne (fun z => hz z.symm)]; omega
  · subst ho' hi'
    have : spt 0 0 = 0 := rfl
    rw [this] at hH ⊢
    rw [upw_eq, hH]
    simp
theorem wgt_succ (d : Nat) : wgt (d + 1) = 1 + 3 * wgt d := rfl
theorem wgt_pos : ∀ d, 1 ≤ wgt d
  | 0 => Nat.le_refl _
  | d + 1 => by rw [wgt_succ]; omega
theorem wt_tr (hE : okE E) (h : Inv E D) (h1o : 1 ≤ o) (ho : o ≤ eN E + 1) (hi : i < eP E o) (hf : f < eP E (o - 1)) (hl : dL D (spt o i) = []) {r : Rec} {l : List Rec} {q : List Bt} (hq : (dC D (lin (o - 1) f i)).1 = some (r :: l) :: q) : wt E (mvTR E D o i f r l q) < wt E D := by
  have vc : vC E (o - 1) f i := ⟨by omega, hf, by rw [show o - 1 + 1 = o by omega]; exact hi⟩
  have i3 : i < 3 := Nat.lt_of_lt_of_le hi (hE.p3 ho)
  have f3 : f < 3 := Nat.lt_of_lt_of_le hf (hE.p3 (by omega))
  have n4 := hE.1
  obtain ⟨k1, k2, k3⟩ := popR_ok (h.1 _ _ _ vc).1 hq
  have hp := proc_len (kind := eK E o) (a := eA E o) (b := eB E o) (st := dK D o r.1) (k := r.1) (v := r.2.1) (fun z => by
    by_cases hz : o = eN E + 1
    · rw [hz, hE.2.2.2.2.1] at z; omega
    · exact hE.2.2.2.2.2.2.1 o h1o (by omega) z)
  have e1 := sumN_upd (n := 18) (g := fun s => (dL D s).length * wgt (eN E - s / 3)) (g' := fun s => (upw (dL D) (spt o i) ((proc (eK E o) (eA E o) (eB E o) (dK D o r.1) r.1 r.2.1).1.map fun x => (x.1, x.2, r.2.2)) s).length * wgt (eN E - s / 3)) (k := spt o i) (spt_lt (by omega) i3) (fun a _ hn => by rw [upw_ne hn])
  have e2 := sumN_upd (n := 54) (g := fun c => csz (dC D c) * wgt (eN E - c / 9)) (g' := fun c => csz (upw (dC D) (lin (o - 1) f i) (if l = [] then q else some l :: q, (dC D (lin (o - 1) f i)).2) c) * wgt (eN E - c / 9)) (k := lin (o - 1) f i) (lin_lt (by omega) f3 i3) (fun a _ hn => by rw [upw_ne hn])
  have hb : wBr E (mvTR E D o i f r l q) = wBr E D := by
    unfold wBr wB1
    simp only [tr_f]
  unfold wt
  rw [hb]
  unfold wRc
  simp only [tr_f]
  simp only [upw_eq, hl, ← k3, spt_div i3, lin_div f3 i3, List.length_nil, List.length_map, Nat.add_mul, Nat.one_mul, Nat.zero_mul, Nat.add_zero] at e1 e2
  generalize (proc (eK E o) (eA E o) (eB E o) (dK D o r.1) r.1 r.2.1).1 = pl at *
  have key : pl.length * wgt (eN E - o) < wgt (eN E - (o - 1)) := by
    by_cases hz : o = eN E + 1
    · rw [hp.2 (by rw [hz]; exact hE.2.2.2.2.1)]
      have := wgt_pos (eN E - (o - 1))
      simp; omega
    · rw [show eN E - (o - 1) = eN E - o + 1 by omega, wgt_succ]
      have := Nat.mul_le_mul_right (wgt (eN E - o)) hp.1
      omega
  omega
theorem pop_le : ∀ m : Fin 8, pop3 m.val ≤ 3 := by decide
theorem wt_tb (hE : okE E) (h : Inv E D) (h1o : 1 ≤ o) (ho : o ≤ eN E + 1) (hi : i < eP E o) (hf : f < eP E (o - 1)) {q : List Bt} (hq : (dC D (lin (o - 1) f i)).1 = none :: q) : wt E (mvTB E D o i f q) < wt E D := by
  obtain ⟨q0, qb, qd, qs, qQ⟩ := tb_pre hE h h1o ho hi hf hq
  have vc : vC E (o - 1) f i := ⟨by omega, hf, by rw [show o - 1 + 1 = o by omega]; exact hi⟩
  have i3 : i < 3 := Nat.lt_of_lt_of_le hi (hE.p3 ho)
  have f3 : f < 3 := Nat.lt_of_lt_of_le hf (hE.p3 (by omega))
  have n4 := hE.1
  have p3 : eP E (o - 1) ≤ 3 := hE.p3 (by omega)
  have hm := (h.2.2.1 o i ⟨ho, hi⟩).2.2 h1o
  have h28 : (2 : Nat) ^ eP E (o - 1) ≤ 2 ^ 3 := Nat.pow_le_pow_right (by omega) p3
  have hor := mask_or ⟨_, (by omega : dS D (spt o i) < 8)⟩ ⟨f, f3⟩ ⟨f, f3⟩ qb
  have hpop := mask_pop ⟨eP E (o - 1), by omega⟩ ⟨_, (by omega : dS D (spt o i) < 8)⟩ hm
  simp only at hor hpop
  obtain ⟨k1, k2, k3⟩ := popB_ok (h.1 _ _ _ vc).1 hq
  have hc : ∀ c, csz (upw (dC D) (lin (o - 1) f i) (q, (dC D (lin (o - 1) f i)).2) c) = csz (dC D c) := fun c => by
    by_cases hz : c = lin (o - 1) f i
    · rw [hz, upw_eq]; exact k3
    · rw [upw_ne hz]
  have hs1 : spt o i / 3 = o := spt_div i3
  have hs2 : spt o i % 3 = i := spt_mod i3
  have hs0 : (0 : Nat) ≠ spt o i := by unfold spt; omega
  have hold : wB1 E D (spt o i) = eP E (o - 1) - pop3 (dS D (spt o i)) := by
    unfold wB1
    rw [hs1, hs2, if_pos ⟨by unfold spt; omega, ho, hi, qd⟩]
  have other : ∀ D' : Dy, (∀ s, s ≠ spt o i → dD D' s = dD D s ∧ dS D' s = dS D s) → ∀ a, a < 18 → a ≠ spt o i → wB1 E D' a = wB1 E D a := fun D' hD a _ hn => by
    unfold wB1
    rw [(hD a hn).1, (hD a hn).2]
  by_cases hful : (dS D (spt o i) ||| 1 <<< f) = 2 ^ eP E (o - 1) - 1
  · by_cases hs : o = eN E + 1
    · have hr : wRc E (mvTB E D o i f q) = wRc E D := by
        unfold wRc
        simp only [tbs_f E D o i f q hful hs, hc]
      have e := sumN_upd (n := 18) (g := wB1 E D) (g' := wB1 E (mvTB E D o i f q)) (k := spt o i) (spt_lt (by omega) i3) (other _ (fun s hn => by simp only [tbs_f E D o i f q hful hs]; rw [upw_ne hn, upw_ne hn]; exact ⟨rfl, rfl⟩))
      have hnew : wB1 E (mvTB E D o i f q) (spt o i) = 0 := by
        unfold wB1
        simp only [tbs_f E D o i f q hful hs, upw_eq]
        exact if_neg (fun z => by cases z.2.2.2)
      have hh : dH (mvTB E D o i f q) 0 = dH D 0 := by simp only [tbs_f E D o i f q hful hs]
      unfold wt wBr
      rw [hr, hh, if_neg qQ, if_neg qQ]
      omega
    · have hr : wRc E (mvTB E D o i f q) = wRc E D := by
        unfold wRc
        simp only [tbf_f E D o i f q hful hs, hc]
      have e := sumN_upd (n := 18) (g := wB1 E D) (g' := wB1 E (mvTB E D o i f q)) (k := spt o i) (spt_lt (by omega) i3) (other _ (fun s hn => by simp only [tbf_f E D o i f q hful hs]; rw [upw_ne hn, upw_ne hn]; exact ⟨rfl, rfl⟩))
      have hnew : wB1 E (mvTB E D o i f q) (spt o i) = 0 := by
        unfold wB1
        simp only [tbf_f E D o i f q hful hs, upw_eq]
        exact if_neg (fun z => by cases z.2.2.2)
      have hh : dH (mvTB E D o i f q) 0 = dH D 0 := by simp only [tbf_f E D o i f q hful hs]; exact upw_ne hs0
      unfold wt wBr
      rw [hr, hh, if_neg qQ, if_neg qQ]
      omega
  · have hr : wRc E (mvTB E D o i f q) = wRc E D := by
      unfold wRc
      simp only [tbn_f E D o i f q hful, hc]
    have e := sumN_upd (n := 18) (g := wB1 E D) (g' := wB1 E (mvTB E D o i f q)) (k := spt o i) (spt_lt (by omega) i3) (other _ (fun s hn => by simp only [tbn_f E D o i f q hful]; rw [upw_ne hn]; exact ⟨trivial, rfl⟩))
    have hnew : wB1 E (mvTB E D o i f q) (spt o i) = eP E (o - 1) - pop3 (dS D (spt o i) ||| 1 <<< f) := by
      unfold wB1
      simp only [tbn_f E D o i f q hful, upw_eq]
      rw [hs1, hs2]
      exact if_pos ⟨by unfold spt; omega, ho, hi, qd⟩
    have hh : dH (mvTB E D o i f q) 0 = dH D 0 := by simp only [tbn_f E D o i f q hful]
    unfold wt wBr
    rw [hr, hh, if_neg qQ, if_neg qQ]
    omega
theorem sends_le (hE : okE E) (hs : vS E o i) (hI : Inv E D) : Inv E (sends E D o i).2 ∧ wt E (sends E D o i).2 ≤ wt E D ∧ ((sends E D o i).1 = true → dL (sends E D o i).2 (spt o i) = [] ∧ dH (sends E D o i).2 (spt o i) = false) := by
  obtain ⟨a1, a2, a3, a4⟩ := sends_ind hE hs (fun D' => wt E D' ≤ wt E D) (fun D' r l h1 h2 h3 h4 h5 => by rw [wt_put hE h1 h3 hs.2 h4 h5]; exact h2) (fun D' h1 h2 h3 h4 h5 h6 => Nat.le_trans (wt_bar hE h1 h3 hs.2 h5 h6).1 h2) D hI (Nat.le_refl _)
  exact ⟨a1, a2, a3⟩
theorem works_le (hE : okE E) (hs : vS E o i) (b : Nat) (hI : Inv E D) : Inv E (works E o i b D) ∧ wt E (works E o i b D) ≤ wt E D :=
  works_ind hE hs (fun D' => wt E D' ≤ wt E D) (fun D' r l h1 h2 h3 h4 h5 => by rw [wt_put hE h1 h3 hs.2 h4 h5]; exact h2) (fun D' h1 h2 h3 h4 h5 h6 => Nat.le_trans (wt_bar hE h1 h3 hs.2 h5 h6).1 h2) (fun _ _ D' r h1 h2 h3 h4 h5 => Nat.le_trans (Nat.le_of_lt (wt_src h3 h5)) h2) (fun ho D' f r l q h1 h2 h3 h4 h5 h6 h7 => Nat.le_trans (Nat.le_of_lt (wt_tr hE h1 ho hs.1 hs.2 h5 h3 h7)) h2) (fun ho D' f q h1 h2 h3 h4 h5 h6 h7 => Nat.le_trans (Nat.le_of_lt (wt_tb hE h1 ho hs.1 hs.2 h5 h7)) h2) (fun _ h => h) (fun _ h => h) b D hI (Nat.le_refl _)
/-- an instance whose working brings the measure down -/
def En (E : Env) (D : Dy) (o i : Nat) : Prop := (1 ≤ o ∧ dL D (spt o i) = [] ∧ dH D (spt o i) = false ∧ ∃ f, f < eP E (o - 1) ∧ bit (dS D (spt o i)) f = 0 ∧ (dC D (lin (o - 1) f i)).1 ≠ []) ∨ (o = 0 ∧ dL D 0 = [] ∧ dH D 0 = false ∧ dO D < (eI E).length) ∨ (o = 0 ∧ dL D 0 = [] ∧ dH D 0 = true ∧ ∀ j, j < eP E 1 → tkB (eC E) (dC D (lin 0 0 j)) = true)
theorem takes_lt (hE : okE E) (hs : vS E o i) (hI : Inv E D) (hl : dL D (spt o i) = []) (hh : dH D (spt o i) = false) (hn : (1 ≤ o ∧ ∃ f, f < eP E (o - 1) ∧ bit (dS D (spt o i)) f = 0 ∧ (dC D (lin (o - 1) f i)).1 ≠ []) ∨ (o = 0 ∧ dO D < (eI E).length)) : (takes E D o i).1 = true ∧ Inv E (takes E D o i).2 ∧ wt E (takes E D o i).2 < wt E D := by
  unfold takes
  by_cases ho : o = 0
  · rw [if_pos ho]
    subst ho
    have hi : i = 0 := by have := hs.2; rw [hE.2.2.1] at this; omega
    subst hi
    have hlt : dO D < (eI E).length := by
      rcases hn with hn | hn
      · omega
      · exact hn.2
    rw [List.getElem?_eq_getElem hlt]
    exact ⟨rfl, Inv_src hE hI (List.getElem?_eq_getElem hlt), wt_src hl (List.getElem?_eq_getElem hlt)⟩
  · rw [if_neg ho]
    cases hr : ready E D o i with
    | none =>
      exfalso
      rcases hn with ⟨h1, f, h2, h3, h4⟩ | hn
      · exact h4 (ready_none hE hI h1 hs hr h2 h3)
      · exact ho hn.1
    | some f =>
      obtain ⟨b1, b2, b3⟩ := ready_some hE hI (by omega) hs hr
      simp only
      split
      · rename_i q hq
        exact ⟨rfl, Inv_tb hE hI (by omega) hs.1 hs.2 b1 hq, wt_tb hE hI (by omega) hs.1 hs.2 b1 hq⟩
      · rename_i r l q hq
        exact ⟨rfl, Inv_tr hE hI (by omega) hs.1 hs.2 b1 hq, wt_tr hE hI (by omega) hs.1 hs.2 b1 hl hq⟩
      · rename_i hx hy
        exfalso
        have vc : vC E (o - 1) f i := ⟨by have := hs.1; omega, b1, by rw [show o - 1 + 1 = o by omega]; exact hs.2⟩
        have hk := (hI.1 _ _ _ vc).1.2.2
        cases hz : (dC D (lin (o - 1) f i)).1 with
        | nil => exact b3 hz
        | cons x q =>
          cases x with
          | none => exact hx q hz
          | some l =>
            cases l with
            | nil => exact (hk [] (by rw [hz]; exact List.mem_cons_self)).1 rfl
            | cons r l => exact hy r l q hz
theorem works_lt (hE : okE E) (hs : vS E o i) (b : Nat) (hI : Inv E D) (hn : En E D o i) : wt E (works E o i (b + 1) D) < wt E D := by
  rcases hn with ⟨h1, h2, h3, h4⟩ | ⟨h1, h2, h3, h4⟩ | ⟨h1, h2, h3, h4⟩
  · have e : sends E D o i = (true, D) := by
      unfold sends
      simp only [h2, sendL, if_pos]
      unfold sendB
      rw [if_neg (by rw [h3]; simp)]
    obtain ⟨c1, c2, c3⟩ := takes_lt hE hs hI h2 h3 (Or.inl ⟨h1, h4⟩)
    unfold works
    simp only [e, if_pos, c1]
    exact Nat.lt_of_le_of_lt (works_le hE hs b c2).2 c3
  · subst h1
    have hi : i = 0 := by have := hs.2; rw [hE.2.2.1] at this; omega
    subst hi
    have e : sends E D 0 0 = (true, D) := by
      unfold sends
      simp only [show spt 0 0 = 0 from rfl, h2, sendL, if_pos]
      unfold sendB
      rw [if_neg (by rw [show spt 0 0 = 0 from rfl, h3]; simp)]
    obtain ⟨c1, c2, c3⟩ := takes_lt hE hs hI h2 h3 (Or.inr ⟨rfl, h4⟩)
    unfold works
    simp only [e, if_pos, c1]
    exact Nat.lt_of_le_of_lt (works_le hE hs b c2).2 c3
  · subst h1
    have hi : i = 0 := by have := hs.2; rw [hE.2.2.1] at this; omega
    subst hi
    have hr : refus E D 0 0 = none := by
      cases hr : refus E D 0 0 with
      | none => rfl
      | some j =>
        have := refus_some hr
        rw [h4 j this.1] at this
        cases this.2
    have e : sends E D 0 0 = (true, mvBar E D 0 0) := by
      unfold sends
      simp only [show spt 0 0 = 0 from rfl, h2, sendL, if_pos]
      unfold sendB
      rw [if_pos (by rw [show spt 0 0 = 0 from rfl, h3]), hr]
    have hw := (wt_bar hE hI (by omega) hs.2 h3 h4).2 rfl rfl
    have hI2 := Inv_bar hE hI (by omega) hs.2 h3 h4
    have hl2 : dL (mvBar E D 0 0) (spt 0 0) = [] := by simp only [bar_f]; exact h2
    have hh2 : dH (mvBar E D 0 0) (spt 0 0) = false := by simp only [bar_f]; exact upw_eq
    unfold works
    simp only [e, if_pos]
    obtain ⟨c1, c2⟩ := takes_ind hE hs (fun D' => wt E D' ≤ wt E (mvBar E D 0 0)) (fun _ _ D' r k1 k2 k3 k4 k5 => Nat.le_trans (Nat.le_of_lt (wt_src k3 k5)) k2) (fun ho => by omega) (fun ho => by omega) _ hI2 (Nat.le_refl _) hl2 hh2
    split
    · exact Nat.lt_of_le_of_lt (Nat.le_trans (works_le hE hs b c1).2 c2) hw
    · exact Nat.lt_of_le_of_lt c2 hw
end
