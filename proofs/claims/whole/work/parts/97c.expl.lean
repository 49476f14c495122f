/-! CALLS: explain -/
def low (m : Nat) : Nat := if bit m 0 = 0 then 0 else if bit m 1 = 0 then 1 else 2
/-- the reason of an instance, and the one for which it waits -/
def rs3 (E : Env) (D : Dy) (o i : Nat) : Nat × Nat := if o = 0 then (if dO D = (eI E).length then (4, 0) else (5, 0)) else match ready E D o i with
  | some _ => (5, 0)
  | none => if dS D (spt o i) = 0 then (4, 0) else (3, low (dS D (spt o i)))
def rs2 (E : Env) (D : Dy) (o i : Nat) : Nat × Nat := if dH D (spt o i) then (match refus E D o i with
  | some j => (2, j)
  | none => rs3 E D o i) else rs3 E D o i
def rsn (E : Env) (D : Dy) (o i : Nat) : Nat × Nat := match dL D (spt o i) with
  | [] => rs2 E D o i
  | r :: _ => if tkR (eS E) (eC E) (dC D (lin o i (goal E D o i r.1))) then rs2 E D o i else (1, goal E D o i r.1)
def expl (E : Env) (D : Dy) : Nat → Nat → Nat → List (Nat × Nat)
  | 0, _, _ => []
  | d + 1, o, i => (10 * o + i, (rsn E D o i).1) :: (if 4 ≤ (rsn E D o i).1 then [] else expl E D d (if (rsn E D o i).1 = 3 then o - 1 else o + 1) (rsn E D o i).2)
def yExpl (S : Sy) (p q : Int32) : Int32 × Sy := if inOk (yE S) p q then (nI (expl (yE S) (yD S) 8 p.toNatClampNeg q.toNatClampNeg).length, (yE S, yD S, yQ S, yT S, yW S, expl (yE S) (yD S) 8 p.toNatClampNeg q.toNatClampNeg)) else (-1000000001, S)
section
variable {T T' : Tl} {I I' : Iw} {E E' : Env} {D D' : Dy} {Q Q' : Slow} {S : Sy} {g g' : Nat → Kst} {o i j s c r tk k m : Nat}
theorem low_ok : ∀ m : Fin 8, ∀ p : Fin 4, m.val ≠ 0 → m.val < 2 ^ p.val - 1 → low m.val < p.val ∧ bit m.val (low m.val) = 0 := by decide
theorem expl_le : ∀ (d o i : Nat), (expl E D d o i).length ≤ d
  | 0, _, _ => Nat.le_refl _
  | d + 1, o, i => by
    unfold expl
    rw [List.length_cons]
    split
    · rw [List.length_nil]; omega
    · have := expl_le d (if (rsn E D o i).1 = 3 then o - 1 else o + 1) (rsn E D o i).2
      omega
theorem PD_expl (h : PD S k) (p q : Int32) : PD (yExpl S p q).2 (k + 1) := by
  unfold yExpl
  split
  · have h2 := PD_mono h (show k ≤ k + 1 by omega)
    exact ⟨h2.1, h2.2.1, h2.2.2.1, h2.2.2.2.1, expl_le 8 _ _⟩
  · exact PD_mono h (by omega)
/-- what the pure machine must have for the reasons -/
def RO (E : Env) (D : Dy) : Prop := okE E ∧ Inv E D ∧ (∀ s, dP D s < 3) ∧ ∀ s, dN D s < 2 ^ 31
theorem RO_of (h : WD E D Q k) (hk : k ≤ 512) : RO E D := by
  obtain ⟨hE, hA, hI, hTI, hW, hZ, hN, hC, ⟨tb, gc, hB, -⟩, hT0, hqc, hqk⟩ := h
  refine ⟨hE, hI, hB.1, fun s => ?_⟩
  have := hN.1 s
  omega
theorem snk_no (hE : okE E) (hI : Inv E D) (hv : vS E o i) (h : dL D (spt o i) ≠ [] ∨ dH D (spt o i) = true) : o ≤ eN E := by
  by_cases hz : o ≤ eN E
  · exact hz
  · have i3 := hv.i3 hE
    obtain ⟨a1, a2⟩ := hI.2.2.2.1 (spt o i) (fun o' i' h1 h2 e => by
      have p3 := hE.p3 (o := o') (by omega)
      obtain ⟨b1, b2⟩ := spt_inj e i3 (by omega)
      omega)
    rcases h with h | h
    · exact absurd a1 h
    · rw [a2] at h; cases h
theorem dS8 (hE : okE E) (hI : Inv E D) (hv : vS E o i) (h1 : 1 ≤ o) : dS D (spt o i) < 8 ∧ dS D (spt o i) < 2 ^ eP E (o - 1) - 1 := by
  have h := (hI.2.2.1 o i hv).2.2 h1
  have p3 := hE.p3 (o := o - 1) (by have := hv.1; omega)
  have : 2 ^ eP E (o - 1) ≤ 2 ^ 3 := Nat.pow_le_pow_right (by omega) p3
  exact ⟨by omega, h⟩
theorem rs3_ok (hR : RO E D) (hv : vS E o i) : (rs3 E D o i).1 = 4 ∨ (rs3 E D o i).1 = 5 ∨ ((rs3 E D o i).1 = 3 ∧ 1 ≤ o ∧ vS E (o - 1) (rs3 E D o i).2 ∧ (rs3 E D o i).2 = low (dS D (spt o i)) ∧ dS D (spt o i) ≠ 0) := by
  obtain ⟨hE, hI, -⟩ := hR
  unfold rs3
  by_cases h0 : o = 0
  · rw [if_pos h0]
    split
    · exact Or.inl rfl
    · exact Or.inr (Or.inl rfl)
  · rw [if_neg h0]
    cases ready E D o i with
    | some _ => exact Or.inr (Or.inl rfl)
    | none =>
      show (if dS D (spt o i) = 0 then (4, 0) else (3, low (dS D (spt o i)))).1 = 4 ∨ (if dS D (spt o i) = 0 then (4, 0) else (3, low (dS D (spt o i)))).1 = 5 ∨ ((if dS D (spt o i) = 0 then (4, 0) else (3, low (dS D (spt o i)))).1 = 3 ∧ 1 ≤ o ∧ vS E (o - 1) (if dS D (spt o i) = 0 then (4, 0) else (3, low (dS D (spt o i)))).2 ∧ (if dS D (spt o i) = 0 then (4, 0) else (3, low (dS D (spt o i)))).2 = low (dS D (spt o i)) ∧ dS D (spt o i) ≠ 0)
      by_cases hz : dS D (spt o i) = 0
      · rw [if_pos hz]; exact Or.inl rfl
      · rw [if_neg hz]
        obtain ⟨d1, d2⟩ := dS8 hE hI hv (by omega)
        have p3 := hE.p3 (o := o - 1) (by have := hv.1; omega)
        have hl := low_ok ⟨dS D (spt o i), d1⟩ ⟨eP E (o - 1), by omega⟩ hz d2
        exact Or.inr (Or.inr ⟨rfl, by omega, ⟨by have := hv.1; omega, hl.1⟩, rfl, hz⟩)
theorem rsn_ok (hR : RO E D) (hv : vS E o i) : (rsn E D o i).1 ≤ 5 ∧ 1 ≤ (rsn E D o i).1 ∧ ((rsn E D o i).1 < 4 → vS E (if (rsn E D o i).1 = 3 then o - 1 else o + 1) (rsn E D o i).2) := by
  obtain ⟨hE, hI, -⟩ := id hR
  have k3 : (rs3 E D o i).1 ≤ 5 ∧ 1 ≤ (rs3 E D o i).1 ∧ ((rs3 E D o i).1 < 4 → vS E (if (rs3 E D o i).1 = 3 then o - 1 else o + 1) (rs3 E D o i).2) := by
    rcases rs3_ok hR hv with e | e | ⟨e, e2, e3, -⟩
    · rw [e]; exact ⟨by omega, by omega, fun z => by omega⟩
    · rw [e]; exact ⟨by omega, by omega, fun z => by omega⟩
    · rw [e, if_pos rfl]; exact ⟨by omega, by omega, fun _ => e3⟩
  have k2 : (rs2 E D o i).1 ≤ 5 ∧ 1 ≤ (rs2 E D o i).1 ∧ ((rs2 E D o i).1 < 4 → vS E (if (rs2 E D o i).1 = 3 then o - 1 else o + 1) (rs2 E D o i).2) := by
    unfold rs2
    cases hh : dH D (spt o i) with
    | false => exact k3
    | true =>
      rw [if_pos rfl]
      cases hr : refus E D o i with
      | none => exact k3
      | some j =>
        have hle := snk_no hE hI hv (Or.inr hh)
        have := (refus_some hr).1
        exact ⟨by show (2 : Nat) ≤ 5; omega, by show (1 : Nat) ≤ 2; omega, fun _ => ⟨by show o + 1 ≤ eN E + 1; omega, this⟩⟩
  unfold rsn
  cases hl : dL D (spt o i) with
  | nil => exact k2
  | cons r l =>
    have hle := snk_no hE hI hv (Or.inl (by rw [hl]; exact List.cons_ne_nil _ _))
    show (if tkR (eS E) (eC E) (dC D (lin o i (goal E D o i r.1))) = true then rs2 E D o i else (1, goal E D o i r.1)).1 ≤ 5 ∧ 1 ≤ (if tkR (eS E) (eC E) (dC D (lin o i (goal E D o i r.1))) = true then rs2 E D o i else (1, goal E D o i r.1)).1 ∧ ((if tkR (eS E) (eC E) (dC D (lin o i (goal E D o i r.1))) = true then rs2 E D o i else (1, goal E D o i r.1)).1 < 4 → vS E (if (if tkR (eS E) (eC E) (dC D (lin o i (goal E D o i r.1))) = true then rs2 E D o i else (1, goal E D o i r.1)).1 = 3 then o - 1 else o + 1) (if tkR (eS E) (eC E) (dC D (lin o i (goal E D o i r.1))) = true then rs2 E D o i else (1, goal E D o i r.1)).2)
    by_cases ht : tkR (eS E) (eC E) (dC D (lin o i (goal E D o i r.1))) = true
    · rw [if_pos ht]; exact k2
    · rw [if_neg ht]
      exact ⟨by show (1 : Nat) ≤ 5; omega, by show (1 : Nat) ≤ 1; omega, fun _ => ⟨by show o + 1 ≤ eN E + 1; omega, goal_lt hE hle⟩⟩
theorem rsn_3 (hR : RO E D) (hv : vS E o i) (h : (rsn E D o i).1 = 3) : 1 ≤ o := by
  have k3 : (rs3 E D o i).1 = 3 → 1 ≤ o := fun e => by
    rcases rs3_ok hR hv with q | q | ⟨q, q2, -⟩
    · omega
    · omega
    · exact q2
  have k2 : (rs2 E D o i).1 = 3 → 1 ≤ o := fun e => by
    unfold rs2 at e
    cases hh : dH D (spt o i) with
    | false => rw [hh] at e; exact k3 e
    | true =>
      rw [hh, if_pos rfl] at e
      cases hr : refus E D o i with
      | none => rw [hr] at e; exact k3 e
      | some j => rw [hr] at e; exact absurd e (by show ¬ (2 : Nat) = 3; omega)
  unfold rsn at h
  cases hl : dL D (spt o i) with
  | nil => rw [hl] at h; exact k2 h
  | cons r l =>
    rw [hl] at h
    have h' : (if tkR (eS E) (eC E) (dC D (lin o i (goal E D o i r.1))) = true then rs2 E D o i else (1, goal E D o i r.1)).1 = 3 := h
    by_cases ht : tkR (eS E) (eC E) (dC D (lin o i (goal E D o i r.1))) = true
    · rw [if_pos ht] at h'
      exact k2 h'
    · rw [if_neg ht] at h'
      exact absurd h' (by show ¬ (1 : Nat) = 3; omega)
-- the class
theorem lr_code {m : Nat} (h7 : m < 7) (n : Nat) (M : Mem) : f_ex_lowestRunning_2 (n + 3) (nI m) (nI 0) M = some (nI (low m), M) := by
  have e0 := (mask_shr ⟨m, by omega⟩ ⟨0, by omega⟩).1
  have e1 := (mask_shr ⟨m, by omega⟩ ⟨1, by omega⟩).1
  have e2 := (mask_shr ⟨m, by omega⟩ ⟨2, by omega⟩).1
  simp only at e0 e1 e2
  have b0 := bit_lt (m := m) (f := 0)
  have b1 := bit_lt (m := m) (f := 1)
  have h012 : bit m 0 ≠ 0 → bit m 1 ≠ 0 → bit m 2 = 0 := by
    intro h0 h1
    unfold bit at h0 h1 ⊢
    simp only [Nat.pow_zero, Nat.div_one, Nat.pow_one, show 2 ^ 2 = 4 from rfl] at h0 h1 ⊢
    omega
  unfold low
  unfold f_ex_lowestRunning_2
  rw [if_neg (by decide), show ((nI m >>> (nI 0 &&& (31 : Int32))) &&& (1 : Int32)) = nI (bit m 0) from e0]
  by_cases h0 : bit m 0 = 0
  · rw [h0, if_pos (by decide), if_pos rfl]
  rw [if_neg (nI_ne0 (by omega) (by omega)), if_neg h0, show nI 0 + (1 : Int32) = nI 1 from rfl]
  unfold f_ex_lowestRunning_2
  rw [if_neg (by decide), show ((nI m >>> (nI 1 &&& (31 : Int32))) &&& (1 : Int32)) = nI (bit m 1) from e1]
  by_cases h1 : bit m 1 = 0
  · rw [h1, if_pos (by decide), if_pos rfl]
  rw [if_neg (nI_ne0 (by omega) (by omega)), if_neg h1, show nI 1 + (1 : Int32) = nI 2 from rfl]
  unfold f_ex_lowestRunning_2
  rw [if_neg (by decide), show ((nI m >>> (nI 2 &&& (31 : Int32))) &&& (1 : Int32)) = nI (bit m 2) from e2, h012 h0 h1, if_pos (by decide)]
theorem ex72 (sh : shSm T) (shx : shX T) (hR : RO E D) (hC : CT E D g Q I T) (hv : vS E o i) : f_ex_reasonOf_72 489 (nI o) (nI i) (20 + 33 * o + 18 + 5 * i) ((I, T) : Mem) = some (nI (rs3 E D o i).1, ((I, T) : Mem)) := by
  obtain ⟨hE, hI, hP, hN⟩ := hR
  have n4 := hE.1
  have hv1 := hv.1
  have i3 := hv.i3 hE
  have k489 := shx.2.2.2.2.2.2.2.2.2.2.2.2.2.2.2.2.2.2.1
  have kr0 := shx.2.2.2.2.2.2.2.2.2.2.2.2.2.2.2.2.2.2.2.1
  have ksm := sh.1
  have kin1 := ((sh.op (o := o) (by omega)).inn i3).1
  unfold f_ex_reasonOf_72 rs3
  by_cases h0 : o = 0
  · have k12 := sh.2.2.1
    have krc := sh.2.2.2.2.2.2.2.2.2.2.2.2.1.1
    have hsz := hC.2.2.2.2.2.2.2.2.1.2.2.1
    rw [List.length_map] at hsz
    have hO := hC.2.2.2.2.2.2.2.1.1
    have hle := hI.2.2.2.2.2.2.1
    have h60 := hE.2.2.2.2.2.2.2.2.2.2.2
    rw [h0, if_pos (show nI 0 = (0 : Int32) from rfl), if_pos rfl, gA_t k489, kr0, onR_s, gI_t ksm, hO, gA_t k489, kr0, onR_s, gA_t ksm, k12, onR_s, gI_t krc, hsz]
    by_cases hz : dO D = (eI E).length
    · rw [if_pos hz, if_pos ((nI_leI (by omega) (by omega)).mpr (by omega))]; rfl
    · rw [if_neg hz, if_neg (fun z => by have := (nI_leI (by omega) (by omega)).mp z; omega)]; rfl
  · have e := sm_ready (T := T) sh hC.1 hE hC.2.1 hI (by omega) hv (hC.2.2.1 o i (by omega) i3) (hP _)
    have hS := (hC.2.2.1 o i (by omega) i3).2.2.1
    have d8 := (dS8 hE hI hv (by omega)).1
    rw [if_neg (nI_ne0 (by omega) (by omega)), if_neg h0, gA_t k489, kr0, onR_s, ck_t ksm, e, cI_x]
    cases hr : ready E D o i with
    | none =>
      show (if m1 < (0 : Int32) then _ else _) = _
      rw [if_pos (by decide), gI_t kin1, hS]
      by_cases hz : dS D (spt o i) = 0
      · rw [hz, if_pos (by decide)]
        show _ = some (nI (if 0 = 0 then (4, 0) else (3, low 0)).1, _)
        rfl
      · rw [if_neg (nI_ne0 (by omega) (by omega))]
        show _ = some (nI (if dS D (spt o i) = 0 then (4, 0) else (3, low (dS D (spt o i)))).1, _)
        rw [if_neg hz]
        rfl
    | some j =>
      have hj : j < 2 ^ 31 := by
        unfold ready at hr
        have := List.mem_of_find?_eq_some hr
        obtain ⟨x, hx1, hx2⟩ := List.mem_map.mp this
        have p1 := hE.p1 (o := o - 1) (by omega)
        have p3 := hE.p3 (o := o - 1) (by omega)
        have := Nat.mod_lt (dP D (spt o i) + x) (show 0 < eP E (o - 1) by omega)
        omega
      show (if nI j < (0 : Int32) then _ else _) = _
      rw [if_neg (fun z => by have := (nI_ltI (b := 0) hj (by omega)).mp z; omega)]
      rfl
theorem ex51 (sh : shSm T) (shx : shX T) (hR : RO E D) (hC : CT E D g Q I T) (hv : vS E o i) : f_ex_reasonOf_51 489 (nI o) (nI i) (20 + 33 * o + 18 + 5 * i) ((I, T) : Mem) = some (nI (rs2 E D o i).1, ((I, T) : Mem)) := by
  obtain ⟨hE, hI, hP, hN⟩ := id hR
  have n4 := hE.1
  have hv1 := hv.1
  have i3 := hv.i3 hE
  have k489 := shx.2.2.2.2.2.2.2.2.2.2.2.2.2.2.2.2.2.2.1
  have kr0 := shx.2.2.2.2.2.2.2.2.2.2.2.2.2.2.2.2.2.2.2.1
  have ksm := sh.1
  have kin1 := ((sh.op (o := o) (by omega)).inn i3).1
  have hH := (hC.2.2.1 o i (by omega) i3).2.1
  have e72 := ex72 sh shx hR hC hv
  unfold f_ex_reasonOf_51 rs2
  rw [gI_t kin1, hH, b01_cs]
  cases hh : dH D (spt o i) with
  | false => exact e72
  | true =>
    have hle := snk_no hE hI hv (Or.inr hh)
    have e := sm_refus (T := T) sh hC.1 hE hC.2.1 hI.1 hle hv.2
    rw [if_pos rfl, if_pos rfl, gA_t k489, kr0, onR_s, ck_t ksm, e, cI_x]
    cases hr : refus E D o i with
    | none =>
      show (if m1 < (0 : Int32) then _ else _) = _
      rw [if_pos (by decide)]
      exact e72
    | some j =>
      have hj := (refus_some hr).1
      have p3 := hE.p3 (o := o + 1) (by omega)
      show (if nI j < (0 : Int32) then _ else _) = _
      rw [if_neg (fun z => by have := (nI_ltI (b := 0) (by omega) (by omega)).mp z; omega)]
      rfl
theorem ex_reason (sh : shSm T) (shx : shX T) (hR : RO E D) (hC : CT E D g Q I T) (hv : vS E o i) : f_ex_reasonOf 489 (nI o) (nI i) ((I, T) : Mem) = some (nI (rsn E D o i).1, ((I, T) : Mem)) := by
  obtain ⟨hE, hI, hP, hN⟩ := id hR
  have n4 := hE.1
  have hv1 := hv.1
  have i3 := hv.i3 hE
  have k489 := shx.2.2.2.2.2.2.2.2.2.2.2.2.2.2.2.2.2.2.1
  have kr0 := shx.2.2.2.2.2.2.2.2.2.2.2.2.2.2.2.2.2.2.2.1
  have ksm := sh.1
  have hin := hC.2.2.1 o i (by omega) i3
  have e0 := sm_inAt (T := T) (o := o) (i := i) sh hC.1 hE (by omega) (by omega)
  rw [if_pos ⟨hv1, hv.2⟩] at e0
  have e51 := ex51 sh shx hR hC hv
  unfold f_ex_reasonOf rsn
  rw [gA_t k489, kr0, onR_s, ck_t ksm, e0, cR_x, onR_s, gA_t k489, kr0, onR_s, gA_t k489, kr0, onR_s, ck_t ksm]
  cases hl : dL D (spt o i) with
  | nil =>
    have e1 := sm_targetNil (T := T) sh hC.1 hE hin hv1 i3 hl
    have e2 := sm_chNo (T := T) sh hC.1 hE (o := o) (by omega) (nI i) m1 (fun z => by
      obtain ⟨z1, a, b, -, h2, -, h4⟩ := z
      have p3 := hE.p3 (o := o + 1) (by omega)
      exact m1_en (by omega) h2)
    rw [e1, cI_x, ck_t ksm, e2, cR_x, onR_n]
    exact e51
  | cons r l =>
    have hle := snk_no hE hI hv (Or.inl (by rw [hl]; exact List.cons_ne_nil _ _))
    have e1 := sm_target (T := T) sh hC.1 hE hin hle i3 hl (hN _)
    have hg := goal_lt (D := D) (o := o) (i := i) (k := r.1) hE hle
    have hvc : vC E o i (goal E D o i r.1) := ⟨hle, hv.2, hg⟩
    have e2 := sm_chAt (T := T) sh hC.1 hE hvc
    have l45 := lin45 hE hvc
    have kch := sh.ch (c := lin o i (goal E D o i r.1)) l45
    have e3 := ch_takesRecord (T := T) kch hC.1.2.1 (hC.2.1 _ l45) hE.2.2.2.2.2.2.2.1.2 hE.2.2.2.2.2.2.2.2.2.1.2 (hI.1 _ _ _ hvc).1
    rw [e1, cI_x, ck_t ksm, e2, cR_x, onR_s, ck_t kch.1, e3, cI_x, b01_cs]
    show _ = some (nI (if tkR (eS E) (eC E) (dC D (lin o i (goal E D o i r.1))) = true then rs2 E D o i else (1, goal E D o i r.1)).1, _)
    cases ht : tkR (eS E) (eC E) (dC D (lin o i (goal E D o i r.1))) with
    | true => exact e51
    | false => rfl
theorem ex_await (sh : shSm T) (shx : shX T) (hR : RO E D) (hC : CT E D g Q I T) (hv : vS E o i) (h4 : (rsn E D o i).1 < 4) : f_ex_awaited 489 (nI o) (nI i) (nI (rsn E D o i).1) ((I, T) : Mem) = some (nI (rsn E D o i).2, ((I, T) : Mem)) := by
  obtain ⟨hE, hI, hP, hN⟩ := id hR
  have n4 := hE.1
  have hv1 := hv.1
  have i3 := hv.i3 hE
  have k489 := shx.2.2.2.2.2.2.2.2.2.2.2.2.2.2.2.2.2.2.1
  have kr0 := shx.2.2.2.2.2.2.2.2.2.2.2.2.2.2.2.2.2.2.2.1
  have ksm := sh.1
  have hin := hC.2.2.1 o i (by omega) i3
  have kin1 := ((sh.op (o := o) (by omega)).inn i3).1
  have e0 := sm_inAt (T := T) (o := o) (i := i) sh hC.1 hE (by omega) (by omega)
  rw [if_pos ⟨hv1, hv.2⟩] at e0
  have r3 : rsn E D o i = rs3 E D o i → f_ex_awaited 489 (nI o) (nI i) (nI (rsn E D o i).1) ((I, T) : Mem) = some (nI (rsn E D o i).2, ((I, T) : Mem)) := fun e => by
    rw [e] at h4 ⊢
    rcases rs3_ok hR hv with e1 | e1 | ⟨e1, e2, e3, e4, e5⟩
    · omega
    · omega
    · obtain ⟨d8, d2⟩ := dS8 hE hI hv e2
      have p3 := hE.p3 (o := o - 1) (by omega)
      have h2p : 2 ^ eP E (o - 1) ≤ 2 ^ 3 := Nat.pow_le_pow_right (by omega) p3
      rw [e1, e4]
      unfold f_ex_awaited f_ex_lowestRunning
      rw [gA_t k489, kr0, onR_s, ck_t ksm, e0, cR_x, onR_s, if_neg (by decide), if_neg (by decide), gI_t kin1, hin.2.2.1, show FU = 199997 + 3 from rfl, show (0 : Int32) = nI 0 from rfl, lr_code (by omega), cI_x]
  have r2 : rsn E D o i = rs2 E D o i → f_ex_awaited 489 (nI o) (nI i) (nI (rsn E D o i).1) ((I, T) : Mem) = some (nI (rsn E D o i).2, ((I, T) : Mem)) := fun e => by
    cases hh : dH D (spt o i) with
    | false => exact r3 (by rw [e]; unfold rs2; rw [hh]; rfl)
    | true =>
      cases hr : refus E D o i with
      | none => exact r3 (by rw [e]; unfold rs2; rw [hh, hr]; rfl)
      | some j =>
        have hle := snk_no hE hI hv (Or.inr hh)
        have er := sm_refus (T := T) sh hC.1 hE hC.2.1 hI.1 hle hv.2
        have e2 : rsn E D o i = (2, j) := by rw [e]; unfold rs2; rw [hh, hr]; rfl
        rw [e2]
        unfold f_ex_awaited
        rw [gA_t k489, kr0, onR_s, ck_t ksm, e0, cR_x, onR_s, if_neg (show ¬ nI 2 = (1 : Int32) by decide), if_pos (show nI 2 = (2 : Int32) by decide), gA_t k489, kr0, onR_s, ck_t ksm, er, cI_x, hr]
        rfl
  cases hl : dL D (spt o i) with
  | nil => exact r2 (by unfold rsn; rw [hl])
  | cons r l =>
    cases ht : tkR (eS E) (eC E) (dC D (lin o i (goal E D o i r.1))) with
    | true => exact r2 (by unfold rsn; rw [hl]; exact if_pos ht)
    | false =>
      have hle := snk_no hE hI hv (Or.inl (by rw [hl]; exact List.cons_ne_nil _ _))
      have e1 := sm_target (T := T) sh hC.1 hE hin hle i3 hl (hN _)
      have e2 : rsn E D o i = (1, goal E D o i r.1) := by
        unfold rsn
        rw [hl]
        exact if_neg (by rw [ht]; exact Bool.false_ne_true)
      rw [e2]
      unfold f_ex_awaited
      rw [gA_t k489, kr0, onR_s, ck_t ksm, e0, cR_x, onR_s, if_pos (show nI 1 = (1 : Int32) by decide), gA_t k489, kr0, onR_s, ck_t ksm, e1, cI_x]
theorem CT_ex (hE : okE E) (h : CT E D g Q I T) (f : ∀ a, (a < 489 ∨ 491 < a) → I' a = I a) : CT E D g Q I' T := by
  obtain ⟨h1, h2, h3, h4, h5, h6, h7, h8, h9, h10, h11⟩ := h
  have n4 := hE.1
  exact ⟨CfC_cg h1 n4 (by rw [f 10 (by omega)]) (f 11 (by omega)) (fun o ho j _ _ => by rw [f _ (by omega)]), ChsC_cg h2 (fun a _ _ => f a (by omega)), InsC_cg h3 (fun a _ _ _ => f a (by omega)), KsC_cg h4 (fun a _ _ _ _ => f a (by omega)), PeC_cg h5 (fun a _ _ _ _ => f a (by omega)), PgC_cg hE h6 (fun o i ho hi => by rw [f _ (by omega)]), StC_cg h7 (fun o ho j _ _ => by rw [f _ (by omega)]), ScC_cg h8 (f 10 (by omega)), NpC_cg h9 (fun a _ _ => f a (by omega)), LaC_cg h10 (f 18 (by omega)) (fun a ha => f a (by omega)), VsC_cg h11 (fun a _ _ _ _ => f a (by omega)) (fun o i ho hi => by rw [f _ (by omega)]) (by rw [f 10 (by omega)]; exact ⟨rfl, rfl, rfl, rfl, rfl⟩)⟩
theorem ex_loop (sh : shSm T) (shx : shX T) (hR : RO E D) : ∀ (d n l o i : Nat) (I : Iw), l + d = 8 → d < n → vS E o i ∨ d = 0 → CT E D g Q I T → (l = 0 ∨ I 489 3 = nI l) → ∃ I', f_ex_begin_8 n 489 (nI o) (nI i) (nI l) ((I, T) : Mem) = some (nI (l + (expl E D d o i).length), ((I', T) : Mem)) ∧ (∀ a, (a < 489 ∨ 491 < a) → I' a = I a) ∧ I' 489 3 = nI (l + (expl E D d o i).length) ∧ (∀ j, j < l → I' 490 j = I 490 j ∧ I' 491 j = I 491 j) ∧ ∀ j (h : j < (expl E D d o i).length), I' 490 (l + j) = nI (expl E D d o i)[j].1 ∧ I' 491 (l + j) = nI (expl E D d o i)[j].2
  | d, 0, l, o, i, I, _, hn, _, _, _ => by omega
  | 0, n + 1, l, o, i, I, hl, hn, _, hC, h3 => by
    have k489 := shx.2.2.2.2.2.2.2.2.2.2.2.2.2.2.2.2.2.2.1
    have e8 : l = 8 := by omega
    have h3' : I 489 3 = nI l := h3.elim (fun z => by omega) id
    refine ⟨I, ?_, fun _ _ => rfl, h3', fun _ _ => ⟨rfl, rfl⟩, fun j h => absurd h (Nat.not_lt_zero _)⟩
    unfold f_ex_begin_8 f_ex_begin_103
    rw [if_pos (show (8 : Int32) ≤ nI l by rw [e8]; decide), gI_t k489, h3']
    rfl
  | d + 1, n + 1, l, o, i, I, hl, hn, hv', hC, h3 => by
    have hv := hv'.resolve_right (Nat.succ_ne_zero _)
    obtain ⟨hE, hI, hP, hN⟩ := id hR
    have n4 := hE.1
    have hv1 := hv.1
    have i3 := hv.i3 hE
    have k489 := shx.2.2.2.2.2.2.2.2.2.2.2.2.2.2.2.2.2.2.1
    have kr1 := shx.2.2.2.2.2.2.2.2.2.2.2.2.2.2.2.2.2.2.2.2.1
    have kr2 := shx.2.2.2.2.2.2.2.2.2.2.2.2.2.2.2.2.2.2.2.2.2.1
    obtain ⟨k490, l490, k491, l491⟩ := shx.2.2.2.2.2.2.2.2.2.2.2.2.2.2.2.2.2.2.2.2.2.2
    have e1 := ex_reason sh shx hR hC hv
    obtain ⟨ok1, ok2, ok3⟩ := rsn_ok hR hv
    obtain ⟨I1, hI1⟩ : ∃ I1, I1 = u2 (u2 (u2 I 490 l (nI (10 * o + i))) 491 l (nI (rsn E D o i).1)) 489 3 (nI (l + 1)) := ⟨_, rfl⟩
    have f : ∀ a, (a < 489 ∨ 491 < a) → I1 a = I a := fun a ha => by rw [hI1, u2_ne (by omega), u2_ne (by omega), u2_ne (by omega)]
    have f489 : I1 489 3 = nI (l + 1) := by rw [hI1]; exact u2_at rfl rfl
    have f490 : ∀ j, I1 490 j = if j = l then nI (10 * o + i) else I 490 j := fun j => by
      rw [hI1, u2_ne (by omega), u2_ne (by omega)]
      by_cases hz : j = l
      · rw [if_pos hz]; exact u2_at rfl hz
      · rw [if_neg hz]; exact u2_nj rfl hz
    have f491 : ∀ j, I1 491 j = if j = l then nI (rsn E D o i).1 else I 491 j := fun j => by
      rw [hI1, u2_ne (by omega)]
      by_cases hz : j = l
      · rw [if_pos hz]; exact u2_at rfl hz
      · rw [if_neg hz, u2_nj rfl hz, u2_ne (by omega)]
    have C1 := CT_ex hE hC f
    have hx : expl E D (d + 1) o i = (10 * o + i, (rsn E D o i).1) :: (if 4 ≤ (rsn E D o i).1 then [] else expl E D d (if (rsn E D o i).1 = 3 then o - 1 else o + 1) (rsn E D o i).2) := rfl
    have hpre : f_ex_begin_8 (n + 1) 489 (nI o) (nI i) (nI l) ((I, T) : Mem) = if nI (rsn E D o i).1 = (4 : Int32) then (f_ex_begin_103 489 ((I1, T) : Mem)) else if nI (rsn E D o i).1 = (5 : Int32) then (f_ex_begin_103 489 ((I1, T) : Mem)) else ck ((I1, T) : Mem) 489 2 <| cI (f_ex_awaited 489 (nI o) (nI i) (nI (rsn E D o i).1) ((I1, T) : Mem)) fun v9 M8 => if nI (rsn E D o i).1 = (3 : Int32) then (f_ex_begin_96 (f_ex_begin_8 n) 489 v9 (nI l) (nI o - (1 : Int32)) M8) else f_ex_begin_96 (f_ex_begin_8 n) 489 v9 (nI l) (nI o + (1 : Int32)) M8 := by
      conv => lhs; unfold f_ex_begin_8
      rw [if_neg (fun z => by have := (nI_leI (a := 8) (by omega) (by omega)).mp z; omega), ck_t k489, e1, cI_x, gA_t k489, kr1, onR_s, show (10 : Int32) * nI o + nI i = nI (10 * o + i) by rw [show (10 : Int32) = nI 10 from rfl, pk_mul, nI_add], sI_t k490 (by omega) (by omega), gA_t k489, kr2, onR_s, sI_t k491 (by omega) (by omega), show nI l + (1 : Int32) = nI (l + 1) from nI_1 _, pI_t k489, ← hI1]
    rw [hpre, hx]
    by_cases h4 : 4 ≤ (rsn E D o i).1
    · rw [if_pos h4]
      have e103 : f_ex_begin_103 489 ((I1, T) : Mem) = some (nI (l + 1), ((I1, T) : Mem)) := by
        unfold f_ex_begin_103
        rw [gI_t k489, f489]
      refine ⟨I1, ?_, f, f489, fun j hj => ⟨by rw [f490, if_neg (by omega)], by rw [f491, if_neg (by omega)]⟩, fun j hj => ?_⟩
      · rcases (by omega : (rsn E D o i).1 = 4 ∨ (rsn E D o i).1 = 5) with e | e
        · rw [e, if_pos (by decide)]; exact e103
        · rw [e, if_neg (by decide), if_pos (by decide)]; exact e103
      · have hj1 : j < 1 := hj
        have e0 : j = 0 := by omega
        subst e0
        rw [Nat.add_zero, f490, f491, if_pos rfl, if_pos rfl]
        exact ⟨rfl, rfl⟩
    · have e2 := ex_await sh shx hR C1 hv (by omega)
      have hv2 := ok3 (by omega)
      obtain ⟨I2, e3, g1, g2, g3, g4⟩ := ex_loop sh shx hR d n (l + 1) (if (rsn E D o i).1 = 3 then o - 1 else o + 1) (rsn E D o i).2 I1 (by omega) (by omega) (Or.inl hv2) C1 (Or.inr f489)
      rw [if_neg h4]
      have hlen : l + ((10 * o + i, (rsn E D o i).1) :: expl E D d (if (rsn E D o i).1 = 3 then o - 1 else o + 1) (rsn E D o i).2).length = l + 1 + (expl E D d (if (rsn E D o i).1 = 3 then o - 1 else o + 1) (rsn E D o i).2).length := by
        rw [List.length_cons]; omega
      refine ⟨I2, ?_, fun a ha => (g1 a ha).trans (f a ha), by rw [hlen]; exact g2, fun j hj => ⟨by rw [(g3 j (by omega)).1, f490, if_neg (by omega)], by rw [(g3 j (by omega)).2, f491, if_neg (by omega)]⟩, fun j hj => ?_⟩
      · rw [hlen]
        unfold f_ex_begin_96
        rw [if_neg (fun z => by have := (nI_eq (b := 4) (by omega) (by omega)).mp z; omega), if_neg (fun z => by have := (nI_eq (b := 5) (by omega) (by omega)).mp z; omega), ck_t k489, e2, cI_x, show nI l + (1 : Int32) = nI (l + 1) from nI_1 _]
        by_cases h33 : (rsn E D o i).1 = 3
        · have ho1 : 1 ≤ o := rsn_3 hR hv h33
          rw [if_pos h33] at e3
          rw [h33, if_pos (by decide), show (1 : Int32) = nI 1 from rfl, pk_sub ho1]
          rw [h33, if_pos rfl] at *
          exact e3
        · rw [if_neg h33] at e3
          rw [if_neg (fun z => by have := (nI_eq (b := 3) (by omega) (by omega)).mp z; omega), show nI o + (1 : Int32) = nI (o + 1) from nI_1 _, if_neg h33]
          exact e3
      · cases j with
        | zero =>
          rw [Nat.add_zero, (g3 l (by omega)).1, (g3 l (by omega)).2, f490, f491, if_pos rfl, if_pos rfl]
          exact ⟨rfl, rfl⟩
        | succ j =>
          rw [List.length_cons] at hj
          have := g4 j (by omega)
          rw [show l + (j + 1) = l + 1 + j by omega]
          simp only [List.getElem_cons_succ]
          exact this
end
