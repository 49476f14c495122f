/-! THE PURE MACHINE: the moves field by field, and what they keep -/
theorem put_f (E : Env) (D : Dy) (o i : Nat) (r : Rec) (l : List Rec) : dC (mvPut E D o i r l) = upw (dC D) (lin o i (goal E D o i r.1)) (putR (eS E) (eC E) (dC D (lin o i (goal E D o i r.1))) r) ∧ dL (mvPut E D o i r l) = upw (dL D) (spt o i) l ∧ dH (mvPut E D o i r l) = dH D ∧ dS (mvPut E D o i r l) = dS D ∧ dP (mvPut E D o i r l) = dP D ∧ dN (mvPut E D o i r l) = upw (dN D) (spt o i) (dN D (spt o i) + if kyd (eK E (o + 1)) then 0 else 1) ∧ dD (mvPut E D o i r l) = dD D ∧ dR (mvPut E D o i r l) = dR D ∧ dK (mvPut E D o i r l) = dK D ∧ dG (mvPut E D o i r l) = dG D ∧ dX (mvPut E D o i r l) = dX D ∧ dY (mvPut E D o i r l) = dY D ∧ dB (mvPut E D o i r l) = dB D ∧ dI (mvPut E D o i r l) = dI D ∧ dT (mvPut E D o i r l) = dT D ∧ dM (mvPut E D o i r l) = dM D ∧ dU (mvPut E D o i r l) = dU D ∧ dO (mvPut E D o i r l) = dO D ∧ dW (mvPut E D o i r l) = dW D := by
  exact ⟨rfl, rfl, rfl, rfl, rfl, rfl, rfl, rfl, rfl, rfl, rfl, rfl, rfl, rfl, rfl, rfl, rfl, rfl, rfl⟩
theorem bar_f (E : Env) (D : Dy) (o i : Nat) : dC (mvBar E D o i) = barC E D o i ∧ dL (mvBar E D o i) = dL D ∧ dH (mvBar E D o i) = upw (dH D) (spt o i) false ∧ dS (mvBar E D o i) = dS D ∧ dP (mvBar E D o i) = dP D ∧ dN (mvBar E D o i) = dN D ∧ dD (mvBar E D o i) = dD D ∧ dR (mvBar E D o i) = dR D ∧ dK (mvBar E D o i) = dK D ∧ dG (mvBar E D o i) = dG D ∧ dX (mvBar E D o i) = dX D ∧ dY (mvBar E D o i) = dY D ∧ dB (mvBar E D o i) = dB D ∧ dI (mvBar E D o i) = dI D ∧ dT (mvBar E D o i) = dT D ∧ dM (mvBar E D o i) = dM D ∧ dU (mvBar E D o i) = dU D ∧ dO (mvBar E D o i) = dO D ∧ dW (mvBar E D o i) = dW D := by
  exact ⟨rfl, rfl, rfl, rfl, rfl, rfl, rfl, rfl, rfl, rfl, rfl, rfl, rfl, rfl, rfl, rfl, rfl, rfl, rfl⟩
theorem src_f (E : Env) (D : Dy) (r : Fin 16 × Int32) : dC (mvSrc E D r) = dC D ∧ dL (mvSrc E D r) = upw (dL D) 0 [(r.1, r.2, eT E)] ∧ dH (mvSrc E D r) = dH D ∧ dS (mvSrc E D r) = dS D ∧ dP (mvSrc E D r) = dP D ∧ dN (mvSrc E D r) = dN D ∧ dD (mvSrc E D r) = dD D ∧ dR (mvSrc E D r) = dR D ∧ dK (mvSrc E D r) = dK D ∧ dG (mvSrc E D r) = dG D ∧ dX (mvSrc E D r) = upw (dX D) 0 (dX D 0 + 1) ∧ dY (mvSrc E D r) = upw (dY D) 0 (dY D 0 + 1) ∧ dB (mvSrc E D r) = dB D ∧ dI (mvSrc E D r) = dI D ∧ dT (mvSrc E D r) = dT D ∧ dM (mvSrc E D r) = dM D ∧ dU (mvSrc E D r) = dU D ∧ dO (mvSrc E D r) = dO D + 1 ∧ dW (mvSrc E D r) = dW D := by
  exact ⟨rfl, rfl, rfl, rfl, rfl, rfl, rfl, rfl, rfl, rfl, rfl, rfl, rfl, rfl, rfl, rfl, rfl, rfl, rfl⟩
theorem blk_f (D : Dy) (o : Nat) : dC (blk D o) = dC D ∧ dL (blk D o) = dL D ∧ dH (blk D o) = dH D ∧ dS (blk D o) = dS D ∧ dP (blk D o) = dP D ∧ dN (blk D o) = dN D ∧ dD (blk D o) = dD D ∧ dR (blk D o) = dR D ∧ dK (blk D o) = dK D ∧ dG (blk D o) = dG D ∧ dX (blk D o) = dX D ∧ dY (blk D o) = dY D ∧ dB (blk D o) = upw (dB D) o (dB D o + 1) ∧ dI (blk D o) = dI D ∧ dT (blk D o) = dT D ∧ dM (blk D o) = dM D ∧ dU (blk D o) = dU D ∧ dO (blk D o) = dO D ∧ dW (blk D o) = dW D := by
  exact ⟨rfl, rfl, rfl, rfl, rfl, rfl, rfl, rfl, rfl, rfl, rfl, rfl, rfl, rfl, rfl, rfl, rfl, rfl, rfl⟩
theorem idl_f (D : Dy) (o : Nat) : dC (idl D o) = dC D ∧ dL (idl D o) = dL D ∧ dH (idl D o) = dH D ∧ dS (idl D o) = dS D ∧ dP (idl D o) = dP D ∧ dN (idl D o) = dN D ∧ dD (idl D o) = dD D ∧ dR (idl D o) = dR D ∧ dK (idl D o) = dK D ∧ dG (idl D o) = dG D ∧ dX (idl D o) = dX D ∧ dY (idl D o) = dY D ∧ dB (idl D o) = dB D ∧ dI (idl D o) = upw (dI D) o (dI D o + 1) ∧ dT (idl D o) = dT D ∧ dM (idl D o) = dM D ∧ dU (idl D o) = dU D ∧ dO (idl D o) = dO D ∧ dW (idl D o) = dW D := by
  exact ⟨rfl, rfl, rfl, rfl, rfl, rfl, rfl, rfl, rfl, rfl, rfl, rfl, rfl, rfl, rfl, rfl, rfl, rfl, rfl⟩
theorem tr_f (E : Env) (D : Dy) (o i : Nat) (f : Nat) (r : Rec) (l : List Rec) (q : List Bt) : dC (mvTR E D o i f r l q) = upw (dC D) (lin (o - 1) f i) (if l = [] then q else some l :: q, (dC D (lin (o - 1) f i)).2) ∧ dL (mvTR E D o i f r l q) = upw (dL D) (spt o i) ((proc (eK E o) (eA E o) (eB E o) (dK D o r.1) r.1 r.2.1).1.map fun x => (x.1, x.2, r.2.2)) ∧ dH (mvTR E D o i f r l q) = dH D ∧ dS (mvTR E D o i f r l q) = dS D ∧ dP (mvTR E D o i f r l q) = upw (dP D) (spt o i) ((f + 1) % eP E (o - 1)) ∧ dN (mvTR E D o i f r l q) = dN D ∧ dD (mvTR E D o i f r l q) = dD D ∧ dR (mvTR E D o i f r l q) = dR D ∧ dK (mvTR E D o i f r l q) = upw (dK D) o (fun k => if k = r.1 then (proc (eK E o) (eA E o) (eB E o) (dK D o r.1) r.1 r.2.1).2 else dK D o k) ∧ dG (mvTR E D o i f r l q) = dG D ∧ dX (mvTR E D o i f r l q) = upw (dX D) o (dX D o + 1) ∧ dY (mvTR E D o i f r l q) = upw (dY D) o (dY D o + nI (proc (eK E o) (eA E o) (eB E o) (dK D o r.1) r.1 r.2.1).1.length) ∧ dB (mvTR E D o i f r l q) = dB D ∧ dI (mvTR E D o i f r l q) = dI D ∧ dT (mvTR E D o i f r l q) = (if o = eN E + 1 then upw (dT D) (eT E - r.2.2) (dT D (eT E - r.2.2) + 1) else dT D) ∧ dM (mvTR E D o i f r l q) = (if o = eN E + 1 then dM D + 1 else dM D) ∧ dU (mvTR E D o i f r l q) = (if o = eN E + 1 then dU D + nI (eT E - r.2.2) else dU D) ∧ dO (mvTR E D o i f r l q) = dO D ∧ dW (mvTR E D o i f r l q) = dW D := by
  unfold mvTR
  by_cases h : o = eN E + 1
  · simp only [if_pos h]
    exact ⟨rfl, rfl, rfl, rfl, rfl, rfl, rfl, rfl, rfl, rfl, rfl, rfl, rfl, rfl, rfl, rfl, rfl, rfl, rfl⟩
  · simp only [if_neg h]
    exact ⟨rfl, rfl, rfl, rfl, rfl, rfl, rfl, rfl, rfl, rfl, rfl, rfl, rfl, rfl, rfl, rfl, rfl, rfl, rfl⟩
theorem tbn_f (E : Env) (D : Dy) (o i : Nat) (f : Nat) (q : List Bt) (hm : ¬ (dS D (spt o i) ||| 1 <<< f) = 2 ^ eP E (o - 1) - 1) : dC (mvTB E D o i f q) = upw (dC D) (lin (o - 1) f i) (q, (dC D (lin (o - 1) f i)).2) ∧ dL (mvTB E D o i f q) = dL D ∧ dH (mvTB E D o i f q) = dH D ∧ dS (mvTB E D o i f q) = upw (dS D) (spt o i) (dS D (spt o i) ||| 1 <<< f) ∧ dP (mvTB E D o i f q) = upw (dP D) (spt o i) ((f + 1) % eP E (o - 1)) ∧ dN (mvTB E D o i f q) = dN D ∧ dD (mvTB E D o i f q) = dD D ∧ dR (mvTB E D o i f q) = dR D ∧ dK (mvTB E D o i f q) = dK D ∧ dG (mvTB E D o i f q) = dG D ∧ dX (mvTB E D o i f q) = dX D ∧ dY (mvTB E D o i f q) = dY D ∧ dB (mvTB E D o i f q) = dB D ∧ dI (mvTB E D o i f q) = dI D ∧ dT (mvTB E D o i f q) = dT D ∧ dM (mvTB E D o i f q) = dM D ∧ dU (mvTB E D o i f q) = dU D ∧ dO (mvTB E D o i f q) = dO D ∧ dW (mvTB E D o i f q) = dW D := by
  unfold mvTB
  simp only [if_neg hm]
  exact ⟨rfl, rfl, rfl, rfl, rfl, rfl, rfl, rfl, rfl, rfl, rfl, rfl, rfl, rfl, rfl, rfl, rfl, rfl, rfl⟩
theorem tbs_f (E : Env) (D : Dy) (o i : Nat) (f : Nat) (q : List Bt) (hm : (dS D (spt o i) ||| 1 <<< f) = 2 ^ eP E (o - 1) - 1) (hs : o = eN E + 1) : dC (mvTB E D o i f q) = upw (dC D) (lin (o - 1) f i) (q, (dC D (lin (o - 1) f i)).2) ∧ dL (mvTB E D o i f q) = dL D ∧ dH (mvTB E D o i f q) = dH D ∧ dS (mvTB E D o i f q) = upw (dS D) (spt o i) 0 ∧ dP (mvTB E D o i f q) = upw (dP D) (spt o i) ((f + 1) % eP E (o - 1)) ∧ dN (mvTB E D o i f q) = dN D ∧ dD (mvTB E D o i f q) = upw (dD D) (spt o i) true ∧ dR (mvTB E D o i f q) = upw (dR D) (spt o i) (dN D (spt o i)) ∧ dK (mvTB E D o i f q) = dK D ∧ dG (mvTB E D o i f q) = upw (dG D) o (fun k => if home (eP E o) k = i then dK D o k else dG D o k) ∧ dX (mvTB E D o i f q) = dX D ∧ dY (mvTB E D o i f q) = dY D ∧ dB (mvTB E D o i f q) = dB D ∧ dI (mvTB E D o i f q) = dI D ∧ dT (mvTB E D o i f q) = dT D ∧ dM (mvTB E D o i f q) = dM D ∧ dU (mvTB E D o i f q) = dU D ∧ dO (mvTB E D o i f q) = dO D ∧ dW (mvTB E D o i f q) = dW D + 1 := by
  unfold mvTB
  simp only [if_pos hm, if_pos hs]
  exact ⟨rfl, rfl, rfl, rfl, rfl, rfl, rfl, rfl, rfl, rfl, rfl, rfl, rfl, rfl, rfl, rfl, rfl, rfl, rfl⟩
theorem tbf_f (E : Env) (D : Dy) (o i : Nat) (f : Nat) (q : List Bt) (hm : (dS D (spt o i) ||| 1 <<< f) = 2 ^ eP E (o - 1) - 1) (hs : ¬ o = eN E + 1) : dC (mvTB E D o i f q) = upw (dC D) (lin (o - 1) f i) (q, (dC D (lin (o - 1) f i)).2) ∧ dL (mvTB E D o i f q) = dL D ∧ dH (mvTB E D o i f q) = upw (dH D) (spt o i) true ∧ dS (mvTB E D o i f q) = upw (dS D) (spt o i) 0 ∧ dP (mvTB E D o i f q) = upw (dP D) (spt o i) ((f + 1) % eP E (o - 1)) ∧ dN (mvTB E D o i f q) = dN D ∧ dD (mvTB E D o i f q) = upw (dD D) (spt o i) true ∧ dR (mvTB E D o i f q) = upw (dR D) (spt o i) (dN D (spt o i)) ∧ dK (mvTB E D o i f q) = dK D ∧ dG (mvTB E D o i f q) = upw (dG D) o (fun k => if home (eP E o) k = i then dK D o k else dG D o k) ∧ dX (mvTB E D o i f q) = dX D ∧ dY (mvTB E D o i f q) = dY D ∧ dB (mvTB E D o i f q) = dB D ∧ dI (mvTB E D o i f q) = dI D ∧ dT (mvTB E D o i f q) = dT D ∧ dM (mvTB E D o i f q) = dM D ∧ dU (mvTB E D o i f q) = dU D ∧ dO (mvTB E D o i f q) = dO D ∧ dW (mvTB E D o i f q) = dW D := by
  unfold mvTB
  simp only [if_pos hm, if_neg hs]
  exact ⟨rfl, rfl, rfl, rfl, rfl, rfl, rfl, rfl, rfl, rfl, rfl, rfl, rfl, rfl, rfl, rfl, rfl, rfl, rfl⟩

section
variable {E : Env} {D : Dy} {o i f : Nat}
theorem spt_ne {o i o' i' : Nat} (hi : i < 3) (hi' : i' < 3) (h : ¬ (o = o' ∧ i = i')) : spt o i ≠ spt o' i' := fun z => h (spt_inj z hi hi')
theorem Inv_blk (h : Inv E D) (o : Nat) : Inv E (blk D o) := h
theorem Inv_idl (h : Inv E D) (o : Nat) : Inv E (idl D o) := h
theorem Inv_put (hE : okE E) (h : Inv E D) (ho : o ≤ eN E) (hi : i < eP E o) {r : Rec} {l : List Rec} (hl : dL D (spt o i) = r :: l) (ht : tkR (eS E) (eC E) (dC D (lin o i (goal E D o i r.1))) = true) : Inv E (mvPut E D o i r l) := by
  obtain ⟨h1, h2, h3, h4, h5⟩ := h
  have hg := goal_lt (D := D) (i := i) hE ho (k := r.1)
  have vc : vC E o i (goal E D o i r.1) := ⟨ho, hi, hg⟩
  obtain ⟨k1, k2, k3⟩ := putR_ok (r := r) hE.2.2.2.2.2.2.2.1.1 (h1 _ _ _ vc).1 ht
  refine ⟨fun o' i' j' v => ?_, fun c' hc' => ?_, fun o' i' v => ?_, fun s hs => ?_, h5⟩
  · obtain ⟨a1, a2⟩ := h1 o' i' j' v
    unfold BI snt at a2 ⊢
    simp only [put_f]
    by_cases hc : lin o' i' j' = lin o i (goal E D o i r.1)
    · rw [hc, upw_eq]
      rw [hc] at a2
      exact ⟨k1, by rw [k2]; exact a2⟩
    · rw [upw_ne hc]
      exact ⟨a1, a2⟩
  · simp only [put_f]
    rw [upw_ne (hc' _ _ _ vc)]
    exact h2 c' hc'
  · obtain ⟨a1, a2⟩ := h3 o' i' v
    simp only [put_f]
    refine ⟨?_, a2⟩
    by_cases hc : spt o' i' = spt o i
    · rw [hc, upw_eq]
      rw [hc, hl, List.length_cons] at a1
      omega
    · rw [upw_ne hc]
      exact a1
  · simp only [put_f]
    rw [upw_ne (hs _ _ ho hi)]
    exact h4 s hs
theorem barC_at (hE : okE E) (ho : o ≤ eN E) (hi : i < eP E o) {o' i' j' : Nat} (v : vC E o' i' j') : barC E D o i (lin o' i' j') = if o' = o ∧ i' = i then putB (dC D (lin o' i' j')) else dC D (lin o' i' j') := by
  have a1 := v.i3 hE
  have a2 := v.j3 hE
  have a3 : i < 3 := Nat.lt_of_lt_of_le hi (hE.p3 (by omega))
  have a4 := hE.p3 (o := o + 1) (by omega)
  unfold barC
  by_cases hz : o' = o ∧ i' = i
  · obtain ⟨rfl, rfl⟩ := hz
    have := v.2.2
    rw [if_pos (by unfold lin; omega), if_pos ⟨rfl, rfl⟩]
  · rw [if_neg hz, if_neg (by unfold lin; omega)]
theorem barC_no (hE : okE E) (ho : o ≤ eN E) (hi : i < eP E o) {c : Nat} (hc : ∀ o i j, vC E o i j → c ≠ lin o i j) : barC E D o i c = dC D c := by
  unfold barC
  refine if_neg (fun hz => ?_)
  refine hc o i (c - lin o i 0) ⟨ho, hi, ?_⟩ ?_ <;> unfold lin at * <;> omega
theorem Inv_bar (hE : okE E) (h : Inv E D) (ho : o ≤ eN E) (hi : i < eP E o) (hH : dH D (spt o i) = true) (ht : ∀ j, j < eP E (o + 1) → tkB (eC E) (dC D (lin o i j)) = true) : Inv E (mvBar E D o i) := by
  obtain ⟨h1, h2, h3, h4, h5⟩ := h
  have hD := (h3 o i ⟨by omega, hi⟩).2.1 hH
  have i3 : i < 3 := Nat.lt_of_lt_of_le hi (hE.p3 (by omega))
  refine ⟨fun o' i' j' v => ?_, fun c' hc' => ?_, fun o' i' v => ?_, fun s hs => ?_, h5⟩
  · obtain ⟨a1, a2⟩ := h1 o' i' j' v
    unfold BI snt at a2 ⊢
    simp only [bar_f]
    rw [barC_at hE ho hi v]
    by_cases hc : o' = o ∧ i' = i
    · obtain ⟨rfl, rfl⟩ := hc
      obtain ⟨k1, k2, k3⟩ := putB_ok a1 (ht _ v.2.2)
      rw [if_pos ⟨rfl, rfl⟩, upw_eq]
      rw [hH, hD] at a2
      refine ⟨k1, ?_⟩
      have a3 : nbar (dC D (lin o' i' j')).1 + bit (dS D (spt (o' + 1) j')) i' + b01 (dD D (spt (o' + 1) j')) = 0 := a2
      rw [k2, hD]
      show _ = 1
      omega
    · rw [if_neg hc, upw_ne (spt_ne (v.i3 hE) i3 hc)]
      exact ⟨a1, a2⟩
  · simp only [bar_f]
    rw [barC_no hE ho hi hc']
    exact h2 c' hc'
  · obtain ⟨a1, a2, a3⟩ := h3 o' i' v
    simp only [bar_f]
    refine ⟨a1, fun z => ?_, a3⟩
    by_cases hc : spt o' i' = spt o i
    · rw [hc]; exact hD
    · rw [upw_ne hc] at z
      exact a2 z
  · simp only [bar_f]
    rw [upw_ne (hs _ _ ho hi)]
    exact h4 s hs
theorem Inv_src (hE : okE E) (h : Inv E D) {r : Fin 16 × Int32} (hr : (eI E)[dO D]? = some r) : Inv E (mvSrc E D r) := by
  obtain ⟨h1, h2, h3, h4, h5⟩ := h
  have p0 := hE.2.2.1
  have hlt : dO D < (eI E).length := (List.getElem?_eq_some_iff.mp hr).1
  refine ⟨h1, h2, fun o' i' v => ?_, fun s hs => ?_, h5.1, h5.2.1, by simp only [src_f]; omega, h5.2.2.2⟩
  · obtain ⟨a1, a2⟩ := h3 o' i' v
    simp only [src_f]
    refine ⟨?_, a2⟩
    by_cases hc : spt o' i' = 0
    · rw [hc, upw_eq]; simp
    · rw [upw_ne hc]; exact a1
  · simp only [src_f]
    have hs0 : s ≠ 0 := hs 0 0 (by omega) (by omega)
    rw [upw_ne hs0]
    exact h4 s hs
theorem proc_len {kind : Nat} {a b : Int32} {st : Option (Int32 × Int32)} {k : Fin 16} {v : Int32} (ha : kind = 3 → a.toNatClampNeg ≤ 3) : (proc kind a b st k v).1.length ≤ 3 ∧ (kind = 8 → (proc kind a b st k v).1 = []) := by
  unfold proc
  split <;> (try split) <;> (try split) <;> (try split) <;> simp_all
theorem Inv_tr (hE : okE E) (h : Inv E D) (h1o : 1 ≤ o) (ho : o ≤ eN E + 1) (hi : i < eP E o) (hf : f < eP E (o - 1)) {r : Rec} {l : List Rec} {q : List Bt} (hq : (dC D (lin (o - 1) f i)).1 = some (r :: l) :: q) : Inv E (mvTR E D o i f r l q) := by
  obtain ⟨h1, h2, h3, h4, h5⟩ := h
  have vc : vC E (o - 1) f i := ⟨by omega, hf, by rw [show o - 1 + 1 = o by omega]; exact hi⟩
  have i3 : i < 3 := Nat.lt_of_lt_of_le hi (hE.p3 ho)
  obtain ⟨k1, k2, k3⟩ := popR_ok (h1 _ _ _ vc).1 hq
  have hp := proc_len (kind := eK E o) (a := eA E o) (b := eB E o) (st := dK D o r.1) (k := r.1) (v := r.2.1) (fun z => by
    by_cases hz : o = eN E + 1
    · rw [hz, hE.2.2.2.2.1] at z; omega
    · exact hE.2.2.2.2.2.2.1 o h1o (by omega) z)
  refine ⟨fun o' i' j' v => ?_, fun c' hc' => ?_, fun o' i' v => ?_, fun s hs => ?_, ?_⟩
  · obtain ⟨a1, a2⟩ := h1 o' i' j' v
    unfold BI snt at a2 ⊢
    simp only [tr_f]
    by_cases hc : lin o' i' j' = lin (o - 1) f i
    · rw [hc, upw_eq]
      rw [hc] at a2
      exact ⟨k1, by rw [k2]; exact a2⟩
    · rw [upw_ne hc]
      exact ⟨a1, a2⟩
  · simp only [tr_f]
    rw [upw_ne (hc' _ _ _ vc)]
    exact h2 c' hc'
  · obtain ⟨a1, a2⟩ := h3 o' i' v
    simp only [tr_f]
    refine ⟨?_, a2⟩
    by_cases hc : spt o' i' = spt o i
    · rw [hc, upw_eq, List.length_map]
      exact hp.1
    · rw [upw_ne hc]; exact a1
  · simp only [tr_f]
    refine ⟨?_, (h4 s hs).2⟩
    by_cases hc : s = spt o i
    · by_cases hz : o = eN E + 1
      · rw [hc, upw_eq, hp.2 (by rw [hz]; exact hE.2.2.2.2.1)]; rfl
      · exact absurd hc (hs o i (by omega) hi)
    · rw [upw_ne hc]; exact (h4 s hs).1
  · unfold InvG at h5 ⊢
    simp only [tr_f]
    exact h5
theorem sumN_congr : ∀ {n : Nat} {g g' : Nat → Nat}, (∀ k, k < n → g k = g' k) → sumN n g = sumN n g'
  | 0, _, _, _ => rfl
  | n + 1, g, g', h => by
    simp only [sumN]
    rw [sumN_congr (fun k hk => h k (by omega)), h n (by omega)]
theorem sumN_upd : ∀ {n : Nat} {g g' : Nat → Nat} {k : Nat}, k < n → (∀ a, a < n → a ≠ k → g' a = g a) → sumN n g' + g k = sumN n g + g' k
  | 0, _, _, _, h, _ => by omega
  | n + 1, g, g', k, h, hh => by
    simp only [sumN]
    by_cases hz : k = n
    · subst hz
      rw [sumN_congr (g := g') (g' := g) (fun a ha => hh a (by omega) (by omega))]
      omega
    · have := sumN_upd (n := n) (g := g) (g' := g') (k := k) (by omega) (fun a ha hn => hh a (by omega) hn)
      have e := hh n (by omega) (fun z => hz z.symm)
      omega
/-- a barrier that is taken: what holds just before -/
theorem tb_pre (hE : okE E) (h : Inv E D) (h1o : 1 ≤ o) (ho : o ≤ eN E + 1) (hi : i < eP E o) (hf : f < eP E (o - 1)) {q : List Bt} (hq : (dC D (lin (o - 1) f i)).1 = none :: q) : nbar q = 0 ∧ bit (dS D (spt o i)) f = 0 ∧ dD D (spt o i) = false ∧ snt D (spt (o - 1) f) = 1 ∧ eQ E ≠ 0 := by
  have vc : vC E (o - 1) f i := ⟨by omega, hf, by rw [show o - 1 + 1 = o by omega]; exact hi⟩
  have a2 := (h.1 _ _ _ vc).2
  unfold BI at a2
  rw [hq, show o - 1 + 1 = o by omega] at a2
  simp only [nbar] at a2
  have a3 : snt D (spt (o - 1) f) ≤ 1 := by unfold snt b01; split <;> omega
  have a4 : dD D (spt o i) = false := by
    cases hd : dD D (spt o i) with
    | false => rfl
    | true => rw [hd] at a2; simp [b01] at a2; omega
  rw [a4] at a2
  simp [b01] at a2
  have a5 : snt D (spt (o - 1) f) = 1 := by omega
  refine ⟨by omega, by omega, a4, a5, fun hz => ?_⟩
  have := h.2.2.2.2.2.2.2 hz (spt (o - 1) f)
  unfold snt at a5
  rw [this] at a5
  simp [b01] at a5
theorem Inv_tb (hE : okE E) (h : Inv E D) (h1o : 1 ≤ o) (ho : o ≤ eN E + 1) (hi : i < eP E o) (hf : f < eP E (o - 1)) {q : List Bt} (hq : (dC D (lin (o - 1) f i)).1 = none :: q) : Inv E (mvTB E D o i f q) := by
  obtain ⟨q0, qb, qd, qs, qQ⟩ := tb_pre hE h h1o ho hi hf hq
  obtain ⟨h1, h2, h3, h4, h5⟩ := h
  have vc : vC E (o - 1) f i := ⟨by omega, hf, by rw [show o - 1 + 1 = o by omega]; exact hi⟩
  have i3 : i < 3 := Nat.lt_of_lt_of_le hi (hE.p3 ho)
  have f3 : f < 3 := Nat.lt_of_lt_of_le hf (hE.p3 (by omega))
  have p3 : eP E (o - 1) ≤ 3 := hE.p3 (by omega)
  have hm := (h3 o i ⟨ho, hi⟩).2.2 h1o
  have h28 : (2 : Nat) ^ eP E (o - 1) ≤ 2 ^ 3 := Nat.pow_le_pow_right (by omega) p3
  have hm8 : dS D (spt o i) < 8 := by omega
  have hor := fun g (hg : g < 3) => mask_or ⟨_, hm8⟩ ⟨f, f3⟩ ⟨g, hg⟩ qb
  have hsub := mask_sub ⟨eP E (o - 1), by omega⟩ ⟨_, hm8⟩ ⟨f, f3⟩ (by show dS D (spt o i) < _; simp only; omega) hf
  simp only at hor hsub
  obtain ⟨k1, k2, k3⟩ := popB_ok (h1 _ _ _ vc).1 hq
  have hne : spt (o - 1) f ≠ spt o i := spt_ne f3 i3 (by omega)
  have hA2 : ∀ c, (∀ o i j, vC E o i j → c ≠ lin o i j) → (upw (dC D) (lin (o - 1) f i) (q, (dC D (lin (o - 1) f i)).2) c).1 = [] ∧ (upw (dC D) (lin (o - 1) f i) (q, (dC D (lin (o - 1) f i)).2) c).2.1 = [] := fun c' hc' => by
    rw [upw_ne (hc' _ _ _ vc)]
    exact h2 c' hc'
  by_cases hful : (dS D (spt o i) ||| 1 <<< f) = 2 ^ eP E (o - 1) - 1
  · -- all have come
    have core : ∀ o' i' j', vC E o' i' j' → (upw (dD D) (spt o i) true (spt o' i') && !(if o = eN E + 1 then dH D else upw (dH D) (spt o i) true) (spt o' i')) = (dD D (spt o' i') && !dH D (spt o' i')) := fun o' i' j' v => by
      by_cases hb : spt o' i' = spt o i
      · have := spt_inj hb (v.i3 hE) i3
        rw [hb, upw_eq, if_neg (by have := v.1; omega), upw_eq, qd]; rfl
      · rw [upw_ne hb]
        split
        · rfl
        · rw [upw_ne hb]
    have hBI : ∀ o' i' j', vC E o' i' j' → chOK (eS E) (eC E) (upw (dC D) (lin (o - 1) f i) (q, (dC D (lin (o - 1) f i)).2) (lin o' i' j')) ∧ nbar (upw (dC D) (lin (o - 1) f i) (q, (dC D (lin (o - 1) f i)).2) (lin o' i' j')).1 + bit (upw (dS D) (spt o i) 0 (spt (o' + 1) j')) i' + b01 (upw (dD D) (spt o i) true (spt (o' + 1) j')) = snt D (spt o' i') := fun o' i' j' v => by
      obtain ⟨a1, a2⟩ := h1 o' i' j' v
      unfold BI at a2
      have b0 : bit 0 i' = 0 := by unfold bit; simp
      by_cases ha : spt (o' + 1) j' = spt o i
      · obtain ⟨e1, e2⟩ := spt_inj ha (v.j3 hE) i3
        obtain rfl : o' = o - 1 := by omega
        subst e2
        rw [show o - 1 + 1 = o by omega] at a2 ⊢
        rw [upw_eq, upw_eq, b0]
        by_cases hc : i' = f
        · subst hc
          rw [upw_eq]
          exact ⟨k1, by rw [q0, qs]; rfl⟩
        · have hl : lin (o - 1) i' j' ≠ lin (o - 1) f j' := by unfold lin; omega
          rw [upw_ne hl]
          have c1 := (hor i' (v.i3 hE)).1
          rw [hful] at c1
          rw [mask_full ⟨eP E (o - 1), by omega⟩ ⟨i', v.i3 hE⟩ v.2.1] at c1
          rw [if_neg (by simpa [Fin.ext_iff] using hc)] at c1
          have c2 : snt D (spt (o - 1) i') ≤ 1 := by unfold snt b01; split <;> omega
          refine ⟨a1, ?_⟩
          simp [b01]
          omega
      · rw [upw_ne ha, upw_ne ha]
        have hl : lin o' i' j' ≠ lin (o - 1) f i := fun z => by
          obtain ⟨e1, e2, e3⟩ := lin_inj z (v.i3 hE) (v.j3 hE) f3 i3
          exact ha (by rw [e1, e3, show o - 1 + 1 = o by omega])
        rw [upw_ne hl]
        exact ⟨a1, a2⟩
    by_cases hs : o = eN E + 1
    · refine ⟨fun o' i' j' v => ?_, fun c' hc' => ?_, fun o' i' v => ?_, fun s hs' => ?_, ?_⟩
      · unfold BI snt
        simp only [tbs_f E D o i f q hful hs]
        have := core o' i' j' v
        rw [if_pos hs] at this
        rw [this]
        exact hBI o' i' j' v
      · simp only [tbs_f E D o i f q hful hs]
        exact hA2 c' hc'
      · obtain ⟨a1, a2, a3⟩ := h3 o' i' v
        simp only [tbs_f E D o i f q hful hs]
        refine ⟨a1, fun z => ?_, fun z => ?_⟩
        · by_cases hb : spt o' i' = spt o i
          · rw [hb, upw_eq]
          · rw [upw_ne hb]; exact a2 z
        · by_cases hb : spt o' i' = spt o i
          · rw [hb, upw_eq]; have := a3 z; omega
          · rw [upw_ne hb]; exact a3 z
      · simp only [tbs_f E D o i f q hful hs]
        exact h4 s hs'
      · obtain ⟨g1, g2, g3, g4⟩ := h5
        unfold InvG
        simp only [tbs_f E D o i f q hful hs]
        refine ⟨by rw [upw_ne (by unfold spt; omega)]; exact g1, ?_, g3, fun z => absurd z qQ⟩
        have e := sumN_upd (n := eP E (eN E + 1)) (g := fun j => b01 (dD D (spt (eN E + 1) j))) (g' := fun j => b01 (upw (dD D) (spt o i) true (spt (eN E + 1) j))) (k := i) (by rw [← hs]; exact hi) (fun a ha hn => by
          rw [upw_ne (spt_ne (Nat.lt_of_lt_of_le ha (hE.p3 (Nat.le_refl _))) i3 (by omega))])
        simp only [← hs, upw_eq, qd] at e g2 ⊢
        simp only [b01] at e g2 ⊢
        simp at e g2 ⊢
        omega
    · refine ⟨fun o' i' j' v => ?_, fun c' hc' => ?_, fun o' i' v => ?_, fun s hs' => ?_, ?_⟩
      · unfold BI snt
        simp only [tbf_f E D o i f q hful hs]
        have := core o' i' j' v
        rw [if_neg hs] at this
        rw [this]
        exact hBI o' i' j' v
      · simp only [tbf_f E D o i f q hful hs]
        exact hA2 c' hc'
      · obtain ⟨a1, a2, a3⟩ := h3 o' i' v
        simp only [tbf_f E D o i f q hful hs]
        refine ⟨a1, fun z => ?_, fun z => ?_⟩
        · by_cases hb : spt o' i' = spt o i
          · rw [hb, upw_eq]
          · rw [upw_ne hb] at z ⊢; exact a2 z
        · by_cases hb : spt o' i' = spt o i
          · rw [hb, upw_eq]; have := a3 z; omega
          · rw [upw_ne hb]; exact a3 z
      · simp only [tbf_f E D o i f q hful hs]
        rw [upw_ne (hs' o i (by omega) hi)]
        exact h4 s hs'
      · obtain ⟨g1, g2, g3, g4⟩ := h5
        unfold InvG
        simp only [tbf_f E D o i f q hful hs]
        refine ⟨by rw [upw_ne (by unfold spt; omega)]; exact g1, ?_, g3, fun z => absurd z qQ⟩
        rw [g2]
        refine sumN_congr (fun k hk => ?_)
        rw [upw_ne (spt_ne (Nat.lt_of_lt_of_le hk (hE.p3 (Nat.le_refl _))) i3 (by omega))]
  · refine ⟨fun o' i' j' v => ?_, fun c' hc' => ?_, fun o' i' v => ?_, fun s hs' => ?_, ?_⟩
    · obtain ⟨a1, a2⟩ := h1 o' i' j' v
      unfold BI snt at a2 ⊢
      simp only [tbn_f E D o i f q hful]
      by_cases ha : spt (o' + 1) j' = spt o i
      · obtain ⟨e1, e2⟩ := spt_inj ha (v.j3 hE) i3
        obtain rfl : o' = o - 1 := by omega
        subst e2
        rw [show o - 1 + 1 = o by omega] at a2 ⊢
        rw [upw_eq, (hor i' (v.i3 hE)).1]
        by_cases hc : i' = f
        · subst hc
          rw [upw_eq, if_pos rfl]
          refine ⟨k1, ?_⟩
          rw [qb] at a2
          rw [← a2, ← k2]
        · have hl : lin (o - 1) i' j' ≠ lin (o - 1) f j' := by unfold lin; omega
          rw [upw_ne hl, if_neg (by simpa [Fin.ext_iff] using hc)]
          exact ⟨a1, a2⟩
      · rw [upw_ne ha]
        have hl : lin o' i' j' ≠ lin (o - 1) f i := fun z => by
          obtain ⟨e1, e2, e3⟩ := lin_inj z (v.i3 hE) (v.j3 hE) f3 i3
          exact ha (by rw [e1, e3, show o - 1 + 1 = o by omega])
        rw [upw_ne hl]
        exact ⟨a1, a2⟩
    · simp only [tbn_f E D o i f q hful]
      exact hA2 c' hc'
    · obtain ⟨a1, a2, a3⟩ := h3 o' i' v
      simp only [tbn_f E D o i f q hful]
      refine ⟨a1, a2, fun z => ?_⟩
      by_cases hb : spt o' i' = spt o i
      · obtain ⟨e1, e2⟩ := spt_inj hb (v.i3 hE) i3
        rw [hb, upw_eq, e1]
        omega
      · rw [upw_ne hb]; exact a3 z
    · simp only [tbn_f E D o i f q hful]
      exact h4 s hs'
    · unfold InvG at h5 ⊢
      simp only [tbn_f E D o i f q hful]
      exact h5
end
