/-! CALLS: quiet -/
section
variable {T T' : Tl} {I I' : Iw} {E : Env} {D : Dy} {Q : Slow} {S : Sy} {g : Nat → Kst} {o i j s c r tk k : Nat}
theorem sumN_cgr {f h : Nat → Nat} : ∀ {n : Nat}, (∀ x, x < n → f x = h x) → sumN n f = sumN n h
  | 0, _ => rfl
  | n + 1, e => by
    simp only [sumN]
    rw [sumN_cgr (n := n) (fun x hx => e x (by omega)), e n (by omega)]
theorem sumN_z {f : Nat → Nat} : ∀ {n : Nat}, (∀ x, x < n → f x = 0) → sumN n f = 0
  | 0, _ => rfl
  | n + 1, e => by
    simp only [sumN]
    rw [sumN_z (n := n) (fun x hx => e x (by omega)), e n (by omega)]
theorem sumN_ex {f : Nat → Nat} (m : Nat) : ∀ (d : Nat), (∀ x, m ≤ x → x < m + d → f x = 0) → sumN (m + d) f = sumN m f
  | 0, _ => rfl
  | d + 1, e => by
    show sumN (m + d) f + f (m + d) = _
    rw [sumN_ex m d (fun x h1 h2 => e x h1 (by omega)), e (m + d) (by omega) (by omega)]
    rfl
theorem sumN_3 {f : Nat → Nat} : ∀ (m : Nat), sumN (3 * m) f = sumN m (fun o => sumN 3 (fun i => f (3 * o + i)))
  | 0 => rfl
  | m + 1 => by
    rw [show 3 * (m + 1) = 3 * m + 1 + 1 + 1 by omega]
    simp only [sumN]
    rw [sumN_3 m]
    simp only [sumN, Nat.add_zero, Nat.zero_add]
    omega
theorem sumN_zero {f : Nat → Nat} : ∀ {n : Nat}, sumN n f = 0 → ∀ x, x < n → f x = 0
  | 0, _, x, hx => by omega
  | n + 1, e, x, hx => by
    simp only [sumN] at e
    by_cases hz : x = n
    · rw [hz]; omega
    · exact sumN_zero (n := n) (by omega) x (by omega)
/-- records in the instances' lists -/
def lstN (D : Dy) : Nat := sumN 18 (fun s => (dL D s).length)
theorem lstN_eq (hE : okE E) (hI : Inv E D) : lstN D = sumN (eN E + 2) (fun o => sumN (eP E o) (fun i => (dL D (spt o i)).length)) := by
  have n4 := hE.1
  have h0 : ∀ o i, o < 6 → i < 3 → ¬ (o ≤ eN E + 1 ∧ i < eP E o) → (dL D (3 * o + i)).length = 0 := fun o i ho hi hn => by
    have := (hI.2.2.2.1 (3 * o + i) (fun o' i' h1 h2 h3 => by
      have hp := hE.p3 (o := o') (by omega)
      have : spt o i = spt o' i' := h3
      obtain ⟨rfl, rfl⟩ := spt_inj this hi (by omega)
      exact hn ⟨by omega, h2⟩)).1
    rw [this]
    rfl
  have e1 := sumN_3 (f := fun s => (dL D s).length) 6
  have e2 := sumN_ex (f := fun o => sumN 3 (fun i => (dL D (3 * o + i)).length)) (eN E + 2) (6 - (eN E + 2)) (fun x h1 h2 => sumN_z (fun i hi => h0 x i (by omega) hi (by omega)))
  rw [show eN E + 2 + (6 - (eN E + 2)) = 6 by omega] at e2
  unfold lstN
  rw [show 18 = 3 * 6 from rfl, e1, e2]
  refine sumN_cgr (fun o ho => ?_)
  have p3 := hE.p3 (o := o) (by omega)
  have e3 := sumN_ex (f := fun i => (dL D (3 * o + i)).length) (eP E o) (3 - eP E o) (fun i h1 h2 => h0 o i (by omega) (by omega) (by omega))
  rw [show eP E o + (3 - eP E o) = 3 by omega] at e3
  rw [e3]
  rfl
theorem lists_in (sh : shSm T) (hE : okE E) (hC : CT E D g Q I T) (ho : o ≤ eN E + 1) (kont : Nat → Nat → Int32 → Int32 → Mem → Option (Int32 × Mem)) (kf : Nat) : ∀ (d n j a : Nat), j + d = eP E o → d < n → f_sm_recordsInLists_16 (kont kf) n 10 (nI a) (nI o) (nI j) ((I, T) : Mem) = kont kf 10 (nI (a + (sumN (eP E o) (fun i => (dL D (spt o i)).length) - sumN j (fun i => (dL D (spt o i)).length)))) (nI (o + 1)) ((I, T) : Mem)
  | d, 0, j, a, _, hn => by omega
  | 0, n + 1, j, a, hj, hn => by
    have n4 := hE.1
    have p3 := hE.p3 ho
    have ksm := sh.1
    have e := sm_sizeOf (T := T) (o := o) sh hC.1 n4 (by omega)
    rw [if_pos ho] at e
    unfold f_sm_recordsInLists_16
    rw [show eP E o = j by omega, Nat.sub_self, Nat.add_zero]
    rw [show eP E o = j by omega] at e
    simp (disch := omega) only [↓gI_t, ↓pI_t, ↓pZ_t, ↓ck_t, ↓aN_t, ↓cI_x, ↓cV_x, ↓cR_x, ↓onR_s, ↓onR_n, ↓nmI_t, ↓reduceIte, gA_t, aI_t, sI_t, aA_t, aB_t, sB_t, rmI_t, dvI_t, nI_add, pk_mul, pk_sub, nI_leI, nI_ltI, nI_eq, n_leT, n_leF, n_ltT, n_ltF, n_eqT, n_eqF, u2_ne, u2_at, u2_nj, r2_ne, r2_at, ↓i_neg1, m1_ne, m1_en, m1_lt, m1_le, m1_nlt, m1_nle, i_lits, true_and, and_true, ksm, e]
  | d + 1, n + 1, j, a, hj, hn => by
    have n4 := hE.1
    have p3 := hE.p3 ho
    have ksm := sh.1
    have e := sm_sizeOf (T := T) (o := o) sh hC.1 n4 (by omega)
    rw [if_pos ho] at e
    have e2 := sm_inAt (T := T) (o := o) (i := j) sh hC.1 hE (by omega) (by omega)
    rw [if_pos ⟨ho, by omega⟩] at e2
    have kin := (sh.op (o := o) (by omega)).inn (i := j) (by omega)
    have kin1 := kin.1
    have kin2 := kin.2.1
    have krc := kin.2.2.1
    have hsz := (hC.2.2.1 o j (by omega) (by omega)).1.2.2.1
    have ih := lists_in sh hE hC ho kont kf d n (j + 1) (a + (dL D (spt o j)).length) (by omega) (by omega)
    have hle : ∀ m, m ≤ eP E o → sumN m (fun i => (dL D (spt o i)).length) ≤ sumN (eP E o) (fun i => (dL D (spt o i)).length) := by
      intro m hm
      obtain ⟨z, hz⟩ : ∃ z, eP E o = m + z := ⟨eP E o - m, by omega⟩
      rw [hz]
      clear ih hz
      induction z with
      | zero => exact Nat.le_refl _
      | succ z ih => exact Nat.le_trans ih (Nat.le_add_right _ _)
    have h1 := hle (j + 1) (by omega)
    simp only [sumN] at h1 ih
    rw [show a + (dL D (spt o j)).length + (sumN (eP E o) (fun i => (dL D (spt o i)).length) - (sumN j (fun i => (dL D (spt o i)).length) + (dL D (spt o j)).length)) = a + (sumN (eP E o) (fun i => (dL D (spt o i)).length) - sumN j (fun i => (dL D (spt o i)).length)) by omega] at ih
    rw [← ih]
    conv => lhs; unfold f_sm_recordsInLists_16 f_sm_recordsInLists_51
    simp (disch := omega) only [↓gI_t, ↓pI_t, ↓pZ_t, ↓ck_t, ↓aN_t, ↓cI_x, ↓cV_x, ↓cR_x, ↓onR_s, ↓onR_n, ↓nmI_t, ↓reduceIte, gA_t, aI_t, sI_t, aA_t, aB_t, sB_t, rmI_t, dvI_t, nI_add, pk_mul, pk_sub, nI_leI, nI_ltI, nI_eq, n_leT, n_leF, n_ltT, n_ltF, n_eqT, n_eqF, u2_ne, u2_at, u2_nj, r2_ne, r2_at, ↓i_neg1, m1_ne, m1_en, m1_lt, m1_le, m1_nlt, m1_nle, i_lits, true_and, and_true, ksm, e, e2, kin1, kin2, krc, hsz]
theorem lists_out (sh : shSm T) (hE : okE E) (hC : CT E D g Q I T) : ∀ (d n o a : Nat), o + d = eN E + 2 → d < n → f_sm_recordsInLists_4 n 10 (nI a) (nI o) ((I, T) : Mem) = some (nI (a + (sumN (eN E + 2) (fun o => sumN (eP E o) (fun i => (dL D (spt o i)).length)) - sumN o (fun o => sumN (eP E o) (fun i => (dL D (spt o i)).length)))), ((I, T) : Mem))
  | d, 0, o, a, _, hn => by omega
  | 0, n + 1, o, a, ho, hn => by
    have n4 := hE.1
    have ksm := sh.1
    have hst := hC.1.1
    unfold f_sm_recordsInLists_4
    rw [show eN E + 2 = o by omega, Nat.sub_self, Nat.add_zero]
    simp (disch := omega) only [↓gI_t, ↓pI_t, ↓pZ_t, ↓ck_t, ↓aN_t, ↓cI_x, ↓cV_x, ↓cR_x, ↓onR_s, ↓onR_n, ↓nmI_t, ↓reduceIte, gA_t, aI_t, sI_t, aA_t, aB_t, sB_t, rmI_t, dvI_t, nI_add, pk_mul, pk_sub, nI_leI, nI_ltI, nI_eq, n_leT, n_leF, n_ltT, n_ltF, n_eqT, n_eqF, u2_ne, u2_at, u2_nj, r2_ne, r2_at, ↓i_neg1, m1_ne, m1_en, m1_lt, m1_le, m1_nlt, m1_nle, i_lits, true_and, and_true, ksm, hst]
  | d + 1, n + 1, o, a, ho, hn => by
    have n4 := hE.1
    have ksm := sh.1
    have hst := hC.1.1
    have p3 := hE.p3 (o := o) (by omega)
    have e := lists_in (T := T) (o := o) sh hE hC (by omega) f_sm_recordsInLists_4 n (eP E o) FU 0 a (by omega) (by unfold FU; omega)
    have ih := lists_out sh hE hC d n (o + 1) (a + (sumN (eP E o) (fun i => (dL D (spt o i)).length) - 0)) (by omega) (by omega)
    have hle : ∀ m, m ≤ eN E + 2 → sumN m (fun o => sumN (eP E o) (fun i => (dL D (spt o i)).length)) ≤ sumN (eN E + 2) (fun o => sumN (eP E o) (fun i => (dL D (spt o i)).length)) := by
      intro m hm
      obtain ⟨z, hz⟩ : ∃ z, eN E + 2 = m + z := ⟨eN E + 2 - m, by omega⟩
      rw [hz]
      clear ih hz
      induction z with
      | zero => exact Nat.le_refl _
      | succ z ih => exact Nat.le_trans ih (Nat.le_add_right _ _)
    have h1 := hle (o + 1) (by omega)
    have h2 := hle o (by omega)
    rw [show sumN 0 (fun i => (dL D (spt o i)).length) = 0 from rfl] at e
    unfold f_sm_recordsInLists_4
    simp (disch := omega) only [↓gI_t, ↓pI_t, ↓pZ_t, ↓ck_t, ↓aN_t, ↓cI_x, ↓cV_x, ↓cR_x, ↓onR_s, ↓onR_n, ↓nmI_t, ↓reduceIte, gA_t, aI_t, sI_t, aA_t, aB_t, sB_t, rmI_t, dvI_t, nI_add, pk_mul, pk_sub, nI_leI, nI_ltI, nI_eq, n_leT, n_leF, n_ltT, n_ltF, n_eqT, n_eqF, u2_ne, u2_at, u2_nj, r2_ne, r2_at, ↓i_neg1, m1_ne, m1_en, m1_lt, m1_le, m1_nlt, m1_nle, i_lits, true_and, and_true, ksm, hst]
    rw [e, ih]
    have h3 : sumN (o + 1) (fun o => sumN (eP E o) (fun i => (dL D (spt o i)).length)) = sumN o (fun o => sumN (eP E o) (fun i => (dL D (spt o i)).length)) + sumN (eP E o) (fun i => (dL D (spt o i)).length) := rfl
    rw [h3] at h1 ⊢
    rw [show a + (sumN (eP E o) (fun i => (dL D (spt o i)).length) - 0) + (sumN (eN E + 2) (fun o => sumN (eP E o) (fun i => (dL D (spt o i)).length)) - (sumN o (fun o => sumN (eP E o) (fun i => (dL D (spt o i)).length)) + sumN (eP E o) (fun i => (dL D (spt o i)).length))) = a + (sumN (eN E + 2) (fun o => sumN (eP E o) (fun i => (dL D (spt o i)).length)) - sumN o (fun o => sumN (eP E o) (fun i => (dL D (spt o i)).length))) by omega]
theorem sm_lists (sh : shSm T) (hE : okE E) (hI : Inv E D) (hC : CT E D g Q I T) : f_sm_recordsInLists 10 ((I, T) : Mem) = some (nI (lstN D), ((I, T) : Mem)) := by
  have n4 := hE.1
  have e := lists_out (T := T) sh hE hC (eN E + 2) FU 0 0 (by omega) (by unfold FU; omega)
  rw [lstN_eq hE hI]
  unfold f_sm_recordsInLists
  rw [show (0 : Int32) = nI 0 from rfl, e]
  simp only [sumN, Nat.zero_add, Nat.sub_zero]
def emp (h : Ch) : Bool := decide (h.1 = [] ∧ h.2.1 = [])
/-- P at d places from c on -/
def allB (P : Nat → Bool) : Nat → Nat → Bool
  | _, 0 => true
  | c, d + 1 => P c && allB P (c + 1) d
theorem allB_iff {P : Nat → Bool} : ∀ {d c : Nat}, allB P c d = true ↔ ∀ x, c ≤ x → x < c + d → P x = true
  | 0, c => ⟨fun _ x h1 h2 => by omega, fun _ => rfl⟩
  | d + 1, c => by
    unfold allB
    rw [Bool.and_eq_true, allB_iff]
    refine ⟨fun h x h1 h2 => ?_, fun h => ⟨h c (Nat.le_refl _) (by omega), fun x h1 h2 => h x (by omega) (by omega)⟩⟩
    by_cases hz : x = c
    · rw [hz]; exact h.1
    · exact h.2 x (by omega) (by omega)
def qtB (E : Env) (D : Dy) : Bool := decide (dO D = (eI E).length) && (decide (eQ E = 0) && (allB (fun c => emp (dC D c)) 0 45 && decide (lstN D = 0)))
theorem qtB_iff (hE : okE E) (hI : Inv E D) : qtB E D = true ↔ quietD E D := by
  unfold qtB quietD
  rw [Bool.and_eq_true, Bool.and_eq_true, Bool.and_eq_true, decide_eq_true_eq, decide_eq_true_eq, decide_eq_true_eq, allB_iff]
  refine ⟨fun ⟨h1, h2, h3, h4⟩ => ⟨h1, h2, fun c => ?_, fun s => ?_⟩, fun ⟨h1, h2, h3, h4⟩ => ⟨h1, h2, fun x _ _ => decide_eq_true (h3 x), sumN_z (fun x _ => by rw [h4 x]; rfl)⟩⟩
  · by_cases hz : c < 45
    · exact of_decide_eq_true (h3 c (Nat.zero_le _) (by omega))
    · exact hI.2.1 c (fun o i j v e => by have := lin45 hE v; omega)
  · by_cases hz : s < 18
    · exact List.length_eq_zero_iff.mp (sumN_zero h4 s hz)
    · exact (hI.2.2.2.1 s (fun o i h1 h2 e => by
        have := spt18 hE (o := o) (i := i) ⟨by omega, h2⟩
        omega)).1
theorem chOK_all (hE : okE E) (hI : Inv E D) (x : Nat) : chOK (eS E) (eC E) (dC D x) := by
  by_cases hz : ∃ o i j, vC E o i j ∧ x = lin o i j
  · obtain ⟨o, i, j, v, rfl⟩ := hz
    exact (hI.1 _ _ _ v).1
  · obtain ⟨h1, h2⟩ := hI.2.1 x (fun o i j v e => hz ⟨o, i, j, v, e⟩)
    refine ⟨by rw [h1]; exact Nat.zero_le _, by rw [h2]; exact Nat.zero_le _, fun l hl => by rw [h1] at hl; cases hl⟩
theorem smq_loop (sh : shSm T) (hE : okE E) (hI : Inv E D) (hC : CT E D g Q I T) : ∀ (d n c : Nat), c + d = 45 → d < n → f_sm_quiet_33 n 10 17 (nI 45) (nI c) ((I, T) : Mem) = some (nI (b01 (allB (fun c => emp (dC D c)) c d && decide (lstN D = 0))), ((I, T) : Mem))
  | d, 0, c, _, hn => by omega
  | 0, n + 1, c, hc, hn => by
    have ksm := sh.1
    have e := sm_lists (T := T) sh hE hI hC
    have hb : lstN D < 2 ^ 31 := by
      have : lstN D ≤ sumN 18 (fun _ => 3) := sumN_le (fun s hs => li3 hE hI s hs)
      have h2 : sumN 18 (fun _ => 3) = 54 := rfl
      omega
    unfold f_sm_quiet_33 allB
    by_cases hz : lstN D = 0
    · rw [hz] at e
      simp (disch := omega) only [↓gI_t, ↓pI_t, ↓pZ_t, ↓ck_t, ↓aN_t, ↓cI_x, ↓cV_x, ↓cR_x, ↓onR_s, ↓onR_n, ↓nmI_t, ↓reduceIte, gA_t, aI_t, sI_t, aA_t, aB_t, sB_t, rmI_t, dvI_t, nI_add, pk_mul, pk_sub, nI_leI, nI_ltI, nI_eq, n_leT, n_leF, n_ltT, n_ltF, n_eqT, n_eqF, u2_ne, u2_at, u2_nj, r2_ne, r2_at, ↓i_neg1, m1_ne, m1_en, m1_lt, m1_le, m1_nlt, m1_nle, i_lits, true_and, and_true, ksm, e, hz, decide_true, Bool.true_and, b01]
    · rw [decide_eq_false hz]
      simp (disch := omega) only [↓gI_t, ↓pI_t, ↓pZ_t, ↓ck_t, ↓aN_t, ↓cI_x, ↓cV_x, ↓cR_x, ↓onR_s, ↓onR_n, ↓nmI_t, ↓reduceIte, gA_t, aI_t, sI_t, aA_t, aB_t, sB_t, rmI_t, dvI_t, nI_add, pk_mul, pk_sub, nI_leI, nI_ltI, nI_eq, n_leT, n_leF, n_ltT, n_ltF, n_eqT, n_eqF, u2_ne, u2_at, u2_nj, r2_ne, r2_at, ↓i_neg1, m1_ne, m1_en, m1_lt, m1_le, m1_nlt, m1_nle, i_lits, true_and, and_true, ksm, e, Bool.and_false, b01, Bool.false_eq_true]
  | d + 1, n + 1, c, hc, hn => by
    have ksm := sh.1
    have kch := sh.ch (c := c) (by omega)
    have kch1 := kch.1
    have k17 := sh.2.2.2.2.2.2.2.2.2.1
    have kl17 := sh.2.2.2.2.2.2.2.2.2.2.1
    have kr17 := sh.2.2.2.2.2.2.2.2.2.2.2.2.2.2.1 c (by omega)
    have e := ch_isEmpty (T := T) kch (hC.2.1 c (by omega)) (chOK_all hE hI c) hE.2.2.2.2.2.2.2.1.2 hE.2.2.2.2.2.2.2.2.2.1.2
    have ih := smq_loop sh hE hI hC d n (c + 1) (by omega) (by omega)
    unfold f_sm_quiet_33 f_sm_quiet_58 allB
    show _ = some (nI (b01 ((decide ((dC D c).1 = [] ∧ (dC D c).2.1 = []) && allB (fun c => emp (dC D c)) (c + 1) d) && decide (lstN D = 0))), ((I, T) : Mem))
    cases hz : decide ((dC D c).1 = [] ∧ (dC D c).2.1 = []) with
    | true =>
      rw [hz] at e
      simp (disch := omega) only [↓gI_t, ↓pI_t, ↓pZ_t, ↓ck_t, ↓aN_t, ↓cI_x, ↓cV_x, ↓cR_x, ↓onR_s, ↓onR_n, ↓nmI_t, ↓reduceIte, gA_t, aI_t, sI_t, aA_t, aB_t, sB_t, rmI_t, dvI_t, nI_add, pk_mul, pk_sub, nI_leI, nI_ltI, nI_eq, n_leT, n_leF, n_ltT, n_ltF, n_eqT, n_eqF, u2_ne, u2_at, u2_nj, r2_ne, r2_at, ↓i_neg1, m1_ne, m1_en, m1_lt, m1_le, m1_nlt, m1_nle, i_lits, true_and, and_true, ksm, k17, kl17, kr17, kch1, e, b01, ih, Bool.true_and]
    | false =>
      rw [hz] at e
      simp (disch := omega) only [↓gI_t, ↓pI_t, ↓pZ_t, ↓ck_t, ↓aN_t, ↓cI_x, ↓cV_x, ↓cR_x, ↓onR_s, ↓onR_n, ↓nmI_t, ↓reduceIte, gA_t, aI_t, sI_t, aA_t, aB_t, sB_t, rmI_t, dvI_t, nI_add, pk_mul, pk_sub, nI_leI, nI_ltI, nI_eq, n_leT, n_leF, n_ltT, n_ltF, n_eqT, n_eqF, u2_ne, u2_at, u2_nj, r2_ne, r2_at, ↓i_neg1, m1_ne, m1_en, m1_lt, m1_le, m1_nlt, m1_nle, i_lits, true_and, and_true, ksm, k17, kl17, kr17, kch1, e, b01, Bool.false_and, Bool.false_eq_true]
theorem sm_quiet (sh : shSm T) (hE : okE E) (hI : Inv E D) (hC : CT E D g Q I T) (hQ : eQ E < 2 ^ 31) : f_sm_quiet 10 ((I, T) : Mem) = some (nI (b01 (qtB E D)), ((I, T) : Mem)) := by
  have ksm := sh.1
  have k12 := sh.2.2.1
  have k17r := sh.2.2.2.2.1
  have k17 := sh.2.2.2.2.2.2.2.2.2.1
  have kl17 := sh.2.2.2.2.2.2.2.2.2.2.1
  have krc := sh.2.2.2.2.2.2.2.2.2.2.2.2.1.1
  have hsz := hC.2.2.2.2.2.2.2.2.1.2.2.1
  rw [List.length_map] at hsz
  have h6 := hC.2.2.2.2.2.2.2.1.1
  have h12 := hC.2.2.2.2.2.2.2.1.2.2.1
  have hle := hI.2.2.2.2.2.2.1
  have h60 := hE.2.2.2.2.2.2.2.2.2.2.2
  have e := smq_loop (T := T) sh hE hI hC 45 FU 0 (by omega) (by unfold FU; omega)
  unfold f_sm_quiet qtB
  by_cases h1 : dO D = (eI E).length
  · rw [h1] at h6
    by_cases h2 : eQ E = 0
    · rw [h2] at h12
      rw [decide_eq_true h1, decide_eq_true h2]
      simp (disch := omega) only [↓gI_t, ↓pI_t, ↓pZ_t, ↓ck_t, ↓aN_t, ↓cI_x, ↓cV_x, ↓cR_x, ↓onR_s, ↓onR_n, ↓nmI_t, ↓reduceIte, gA_t, aI_t, sI_t, aA_t, aB_t, sB_t, rmI_t, dvI_t, nI_add, pk_mul, pk_sub, nI_leI, nI_ltI, nI_eq, n_leT, n_leF, n_ltT, n_ltF, n_eqT, n_eqF, u2_ne, u2_at, u2_nj, r2_ne, r2_at, ↓i_neg1, m1_ne, m1_en, m1_lt, m1_le, m1_nlt, m1_nle, i_lits, true_and, and_true, ksm, k12, krc, hsz, h6, h12, k17r, k17, kl17, e, Bool.true_and]
    · rw [decide_eq_false h2]
      simp (disch := omega) only [↓gI_t, ↓pI_t, ↓pZ_t, ↓ck_t, ↓aN_t, ↓cI_x, ↓cV_x, ↓cR_x, ↓onR_s, ↓onR_n, ↓nmI_t, ↓reduceIte, gA_t, aI_t, sI_t, aA_t, aB_t, sB_t, rmI_t, dvI_t, nI_add, pk_mul, pk_sub, nI_leI, nI_ltI, nI_eq, n_leT, n_leF, n_ltT, n_ltF, n_eqT, n_eqF, u2_ne, u2_at, u2_nj, r2_ne, r2_at, ↓i_neg1, m1_ne, m1_en, m1_lt, m1_le, m1_nlt, m1_nle, i_lits, true_and, and_true, ksm, k12, krc, hsz, h6, h12, Bool.false_and, Bool.and_false, b01, Bool.false_eq_true]
  · rw [decide_eq_false h1]
    simp (disch := omega) only [↓gI_t, ↓pI_t, ↓pZ_t, ↓ck_t, ↓aN_t, ↓cI_x, ↓cV_x, ↓cR_x, ↓onR_s, ↓onR_n, ↓nmI_t, ↓reduceIte, gA_t, aI_t, sI_t, aA_t, aB_t, sB_t, rmI_t, dvI_t, nI_add, pk_mul, pk_sub, nI_leI, nI_ltI, nI_eq, n_leT, n_leF, n_ltT, n_ltF, n_eqT, n_eqF, u2_ne, u2_at, u2_nj, r2_ne, r2_at, ↓i_neg1, m1_ne, m1_en, m1_lt, m1_le, m1_nlt, m1_nle, i_lits, true_and, and_true, ksm, k12, krc, hsz, h6, Bool.false_and, b01, Bool.false_eq_true]
end
