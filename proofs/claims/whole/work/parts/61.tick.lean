/-! THE CLASS: working, all the instances in their order -/
def okA (E : Env) : Prop := ∀ o, 1 ≤ o → o ≤ eN E → eK E o = 3 → ∃ c, c ≤ 3 ∧ eA E o = nI c
section
variable {T : Tl} {I I' : Iw} {E : Env} {D : Dy} {g : Nat → Kst} {Q : Slow} {o i lo ag : Nat}
theorem takes_cases (hE : okE E) (hI : Inv E D) (hs : vS E o i) (h1 : 1 ≤ o) : (ready E D o i = none ∧ takes E D o i = (false, D)) ∨ (∃ f q, ready E D o i = some f ∧ (dC D (lin (o - 1) f i)).1 = none :: q ∧ takes E D o i = (true, mvTB E D o i f q)) ∨ ∃ f r l q, ready E D o i = some f ∧ (dC D (lin (o - 1) f i)).1 = some (r :: l) :: q ∧ takes E D o i = (true, mvTR E D o i f r l q) := by
  cases hr : ready E D o i with
  | none =>
    refine Or.inl ⟨rfl, ?_⟩
    unfold takes
    rw [if_neg (by omega)]
    simp only [hr]
  | some f =>
    obtain ⟨b1, b2, b3⟩ := ready_some hE hI h1 hs hr
    have vc : vC E (o - 1) f i := ⟨by have := hs.1; omega, b1, by rw [show o - 1 + 1 = o by omega]; exact hs.2⟩
    have hk := (hI.1 _ _ _ vc).1.2.2
    cases hz : (dC D (lin (o - 1) f i)).1 with
    | nil => exact absurd hz b3
    | cons x q =>
      cases x with
      | none => exact Or.inr (Or.inl ⟨f, q, rfl, hz, takes_bar h1 hr hz⟩)
      | some l =>
        cases l with
        | nil => exact absurd rfl (hk [] (by rw [hz]; exact List.mem_cons_self)).1
        | cons r l => exact Or.inr (Or.inr ⟨f, r, l, q, rfl, hz, takes_rec h1 hr hz⟩)
theorem nI_m1 (n : Nat) : nI (n + 1) + m1 = nI n := pk_m1 n
theorem nI0_m1 : nI 0 + m1 = m1 := by decide
theorem blk_code (sh : shSm T) (hE : okE E) (hC : CT E D g Q I T) (ho : o ≤ eN E + 1) : ∃ I', f_sm_work_60 (20 + 33 * o) ((I, T) : Mem) = some ((I', T) : Mem) ∧ CT E (blk D o) g Q I' T ∧ FX T I I' := by
  have n4 := hE.1
  obtain ⟨C1, F1⟩ := CT_B (o := o) (v := dB D o + nI 1) hE hC (by omega)
  have hb := (hC.2.2.2.2.2.2.1 o (by omega)).2.2.1
  have kop1 := (sh.op (o := o) (by omega)).1
  refine ⟨_, ?_, C1, F1⟩
  unfold f_sm_work_60
  simp (disch := omega) only [↓gI_t, ↓pI_t, ↓pZ_t, ↓ck_t, ↓aN_t, ↓cI_s, ↓cV_s, ↓cR_s, ↓onR_s, ↓onR_n, ↓nmI_t, ↓reduceIte, gA_t, aI_t, sI_t, aA_t, aB_t, sB_t, rmI_t, dvI_t, nI_add, pk_mul, pk_sub, nI_leI, nI_ltI, nI_eq, n_leT, n_leF, n_ltT, n_ltF, n_eqT, n_eqF, u2_ne, u2_at, u2_nj, r2_ne, r2_at, ↓i_neg1, m1_ne, m1_en, m1_lt, m1_le, m1_nlt, m1_nle, i_lits, true_and, and_true, kop1, hb]
/-- taking, of any operator -/
theorem take_code (sh : shSm T) (hn : 550 ≤ tN T) (hE : okE E) (hA : okA E) (hI : Inv E D) (hB : Bd E D lo ag) (hlo : eT E - lo < 40000) (hT : eT E < 2 ^ 30) (hC : CT E D g Q I T) (hs : vS E o i) (hl : dL D (spt o i) = []) : ∃ g' I' T', (if nI o = nI 0 then f_sm_takeInput 10 (20 + 33 * o) (20 + 33 * o + 18 + 5 * i) ((I, T) : Mem) else f_sm_takeItem 10 (nI o) (nI i) (20 + 33 * o) (20 + 33 * o + 18 + 5 * i) ((I, T) : Mem)) = some (nI (b01 (takes E D o i).1), ((I', T') : Mem)) ∧ CT E (takes E D o i).2 g' Q I' T' ∧ FX T I I' ∧ Ext T T' := by
  have n4 := hE.1
  have ho := hs.1
  by_cases h0 : o = 0
  · subst h0
    have hi : i = 0 := by have := hs.2; rw [hE.2.2.1] at this; omega
    subst hi
    obtain ⟨I1, e, C1, F1⟩ := takeInput_code (T := T) sh hE hI hC hl
    exact ⟨g, I1, T, (if_pos rfl).trans e, C1, F1, Ext_rf⟩
  · rw [if_neg (fun w => h0 ((nI_eq (by omega) (by omega)).mp w))]
    have h1 : 1 ≤ o := by omega
    rcases takes_cases hE hI hs h1 with ⟨hr, ht⟩ | ⟨f, q, hr, hq, ht⟩ | ⟨f, r, l, q, hr, hq, ht⟩
    · rw [ht]
      exact ⟨g, I, T, takeItem_none (T := T) sh hE hI hC hs h1 (hB.1 _) hr, hC, FX_rf, Ext_rf⟩
    · rw [ht]
      obtain ⟨g', I1, e, C1, F1⟩ := takeItem_bar (T := T) sh hE hI hC hs h1 (hB.1 _) hr hq
      exact ⟨g', I1, T, e, C1, F1, Ext_rf⟩
    · rw [ht]
      have hb := hB.2.2.1 (lin (o - 1) f i) r (by simp [flatH, hq, flatQ])
      obtain ⟨I1, T1, e, C1, F1, X1⟩ := takeItem_rec (T := T) sh hn hE hI hC hs h1 hA (hB.1 _) hl hr hq ⟨hb.2, by omega⟩ hT
      exact ⟨g, I1, T1, e, C1, F1, X1⟩
theorem takes_inv (hE : okE E) (hlo : lo ≤ eT E) (hs : vS E o i) (hI : Inv E D) (hB : Bd E D lo ag) (hl : dL D (spt o i) = []) (hh : dH D (spt o i) = false) : Inv E (takes E D o i).2 ∧ Bd E (takes E D o i).2 lo ag := by
  obtain ⟨e1, -⟩ := takes_ind hE hs (fun _ => True) (fun _ _ _ _ _ _ _ _ _ => trivial) (fun _ _ _ _ _ _ _ _ _ _ _ _ _ => trivial) (fun _ _ _ _ _ _ _ _ _ _ _ => trivial) D hI trivial hl hh
  refine ⟨e1, ?_⟩
  have hw := (Bd_works hE hs hlo 1 hI hB).2
  -- a take is what works does first
  have e : sends E D o i = (true, D) := by
    unfold sends
    simp only [hl, sendL, if_pos]
    unfold sendB
    rw [if_neg (by rw [hh]; simp)]
  by_cases h0 : o = 0
  · subst h0
    have hi : i = 0 := by have := hs.2; rw [hE.2.2.1] at this; omega
    subst hi
    unfold takes
    rw [if_pos rfl]
    cases hr : (eI E)[dO D]? with
    | none => exact hB
    | some r =>
      refine ⟨hB.1, fun s x hx => ?_, hB.2.2.1, hB.2.2.2⟩
      simp only [src_f] at hx
      by_cases hz : s = 0
      · rw [hz, upw_eq, List.mem_singleton] at hx
        rw [hx]; exact ⟨hlo, Nat.le_refl _⟩
      · rw [upw_ne hz] at hx; exact hB.2.1 s x hx
  · rcases takes_cases hE hI hs (by omega) with ⟨hr, ht⟩ | ⟨f, q, hr, hq, ht⟩ | ⟨f, r, l, q, hr, hq, ht⟩
    · rw [ht]; exact hB
    · have h2 : works E o i 0 (takes E D o i).2 = mvTB E D o i f q ∨ True := Or.inr trivial
      have p1 := hE.p1 (o := o - 1) (by have := hs.1; omega)
      have p3 := hE.p3 (o := o - 1) (by have := hs.1; omega)
      rw [ht]
      have fin : ∀ D2 : Dy, dC D2 = upw (dC D) (lin (o - 1) f i) (q, (dC D (lin (o - 1) f i)).2) → dL D2 = dL D → dP D2 = upw (dP D) (spt o i) ((f + 1) % eP E (o - 1)) → Bd E D2 lo ag := by
        intro D2 eC eL eP'
        refine ⟨fun s => ?_, fun s x hx => by rw [eL] at hx; exact hB.2.1 s x hx, fun c x hx => ?_, fun c => ?_⟩
        · rw [eP']
          by_cases hz : s = spt o i
          · rw [hz, upw_eq]
            exact Nat.lt_of_lt_of_le (Nat.mod_lt _ (by omega)) p3
          · rw [upw_ne hz]; exact hB.1 s
        · rw [eC] at hx
          by_cases hz : c = lin (o - 1) f i
          · rw [hz, upw_eq] at hx
            refine hB.2.2.1 (lin (o - 1) f i) x ?_
            simp only [flatH, hq, flatQ] at hx ⊢
            exact hx
          · rw [upw_ne hz] at hx; exact hB.2.2.1 c x hx
        · rw [eC]
          by_cases hz : c = lin (o - 1) f i
          · rw [hz, upw_eq]; exact hB.2.2.2 _
          · rw [upw_ne hz]; exact hB.2.2.2 c
      by_cases hful : (dS D (spt o i) ||| 1 <<< f) = 2 ^ eP E (o - 1) - 1
      · by_cases hz : o = eN E + 1
        · refine fin _ ?_ ?_ ?_ <;> simp only [tbs_f E D o i f q hful hz]
        · refine fin _ ?_ ?_ ?_ <;> simp only [tbf_f E D o i f q hful hz]
      · refine fin _ ?_ ?_ ?_ <;> simp only [tbn_f E D o i f q hful]
    · rw [ht]
      have p1 := hE.p1 (o := o - 1) (by have := hs.1; omega)
      have p3 := hE.p3 (o := o - 1) (by have := hs.1; omega)
      have hfl : flatH (dC D (lin (o - 1) f i)) = r :: flatH (if l = [] then q else some l :: q, (dC D (lin (o - 1) f i)).2) := by
        simp only [flatH, hq, flatQ]
        by_cases hz : l = []
        · simp [hz]
        · simp [hz, flatQ]
      have hr' := hB.2.2.1 (lin (o - 1) f i) r (by rw [hfl]; exact List.mem_cons_self)
      refine ⟨fun s => ?_, fun s x hx => ?_, fun c x hx => ?_, fun c => ?_⟩
      · simp only [tr_f]
        by_cases hz : s = spt o i
        · rw [hz, upw_eq]
          exact Nat.lt_of_lt_of_le (Nat.mod_lt _ (by omega)) p3
        · rw [upw_ne hz]; exact hB.1 s
      · simp only [tr_f] at hx
        by_cases hz : s = spt o i
        · rw [hz, upw_eq, List.mem_map] at hx
          obtain ⟨y, -, rfl⟩ := hx
          exact hr'
        · rw [upw_ne hz] at hx; exact hB.2.1 s x hx
      · simp only [tr_f] at hx
        by_cases hz : c = lin (o - 1) f i
        · rw [hz, upw_eq] at hx
          exact hB.2.2.1 _ x (by rw [hfl]; exact List.mem_cons_of_mem _ hx)
        · rw [upw_ne hz] at hx; exact hB.2.2.1 c x hx
      · simp only [tr_f]
        by_cases hz : c = lin (o - 1) f i
        · rw [hz, upw_eq]; exact hB.2.2.2 _
        · rw [upw_ne hz]; exact hB.2.2.2 c
theorem sends_Bd (hE : okE E) (hlo : lo ≤ eT E) (hs : vS E o i) (hI : Inv E D) (hB : Bd E D lo ag) : Bd E (sends E D o i).2 lo ag := by
  have h := (Bd_works hE hs hlo 0 hI hB).2
  unfold works at h
  simp only at h
  split at h
  · exact h
  · exact h
def workT (E : Env) (o i : Nat) (r : Bool × Dy) : Nat → Dy
  | 0 => if r.1 then r.2 else blk r.2 o
  | b + 1 => if r.1 then (if (takes E r.2 o i).1 then works E o i b (takes E r.2 o i).2 else idl (takes E r.2 o i).2 o) else blk r.2 o
theorem works_T (b : Nat) : works E o i b D = workT E o i (sends E D o i) b := by cases b <;> rfl
theorem workT_f {X : Dy} (b : Nat) : workT E o i (false, X) b = blk X o := by cases b <;> rfl
theorem work_code (hE : okE E) (hA : okA E) (hlo : lo ≤ eT E) (hlo2 : eT E - lo < 40000) (hT : eT E < 2 ^ 30) (hs : vS E o i) : ∀ (b n : Nat) (D : Dy) (g : Nat → Kst) (I : Iw) (T : Tl), shSm T → 550 ≤ tN T → Inv E D → Bd E D lo ag → CT E D g Q I T → b + 1 < n → dN D (spt o i) + 3 * (b + 1) < 2 ^ 31 → ∃ g' I' T', f_sm_work_33 n 10 (nI o) (nI i) (20 + 33 * o) (20 + 33 * o + 18 + 5 * i) (nI b) ((I, T) : Mem) = some ((I', T') : Mem) ∧ CT E (works E o i b D) g' Q I' T' ∧ FX T I I' ∧ Ext T T'
  | b, 0, D, g, I, T, _, _, _, _, _, hn, _ => by omega
  | b, n + 1, D, g, I, T, sh, h550, hI, hB, hC, hn, hN => by
    have n4 := hE.1
    have ho := hs.1
    have ksm := sh.1
    obtain ⟨I1, e1, C1, F1⟩ := sendList_code (T := T) sh hE hs hI hC (by omega)
    obtain ⟨j1, -, j3, -⟩ := sendL_ind hE hs (fun _ => True) (fun _ _ _ _ _ _ _ _ => trivial) _ D rfl hI trivial
    have hb31 : b < 2 ^ 31 := by omega
    have hk : f_sm_work_33 (n + 1) 10 (nI o) (nI i) (20 + 33 * o) (20 + 33 * o + 18 + 5 * i) (nI b) ((I, T) : Mem) = (if nI (b01 (sendL E o i (dL D (spt o i)) D).1) = nI 0 then f_sm_work_60 (20 + 33 * o) ((I1, T) : Mem) else cI (f_sm_sendBarrier 10 (nI o) (nI i) (20 + 33 * o + 18 + 5 * i) ((I1, T) : Mem)) fun v4 M3 => if v4 = (0 : Int32) then (f_sm_work_60 (20 + 33 * o) M3) else if nI b = (0 : Int32) then (some M3) else if nI o = (0 : Int32) then (ck M3 10 11 <| cI (f_sm_takeInput 10 (20 + 33 * o) (20 + 33 * o + 18 + 5 * i) M3) fun v8 M7 => f_sm_work_100 (f_sm_work_33 n) 10 (nI o) (nI i) (20 + 33 * o) (20 + 33 * o + 18 + 5 * i) (nI b) v8 M7) else ck M3 10 11 <| cI (f_sm_takeItem 10 (nI o) (nI i) (20 + 33 * o) (20 + 33 * o + 18 + 5 * i) M3) fun v6 M5 => f_sm_work_100 (f_sm_work_33 n) 10 (nI o) (nI i) (20 + 33 * o) (20 + 33 * o + 18 + 5 * i) (nI b) v6 M5) := by
      show (if nI b < (0 : Int32) then _ else _) = _
      rw [if_neg (nI_pos hb31), ck_t ksm, e1, cI_s, ck_t ksm]
      rfl
    rw [hk]
    rw [works_T]
    have hse1 : (sendL E o i (dL D (spt o i)) D).1 = false → sends E D o i = sendL E o i (dL D (spt o i)) D := fun h => by
      unfold sends
      simp only [h, Bool.false_eq_true, ↓reduceIte]
    have hse2 : (sendL E o i (dL D (spt o i)) D).1 = true → sends E D o i = sendB E (sendL E o i (dL D (spt o i)) D).2 o i := fun h => by
      unfold sends
      simp only [h, ↓reduceIte]
    obtain ⟨k1, -, k3, -⟩ := sends_ind hE hs (fun _ => True) (fun _ _ _ _ _ _ _ _ => trivial) (fun _ _ _ _ _ _ _ => trivial) D hI trivial
    have kB := sends_Bd hE hlo hs hI hB
    have kN := sends_N (E := E) (D := D) (spt o i) hI hs
    generalize sendL E o i (dL D (spt o i)) D = X at *
    obtain ⟨x1, X2⟩ := X
    cases x1 with
    | false =>
      rw [hse1 rfl]
      obtain ⟨I2, e2, C2, F2⟩ := blk_code (T := T) sh hE C1 ho
      refine ⟨g, I2, T, ?_, ?_, FX_tr F1 F2, Ext_rf⟩
      · exact (if_pos rfl).trans e2
      · rw [workT_f]; exact C2
    | true =>
      have hse := hse2 rfl
      have hnil := j3 rfl
      dsimp only at hse j1 C1 hnil ⊢
      obtain ⟨I2, e2, C2, F2⟩ := sendBarrier_code (T := T) sh hE hs j1 C1
      rw [if_neg (show ¬ nI (b01 true) = nI 0 by decide), e2, cI_s]
      rw [hse] at k1 k3 kB kN ⊢
      clear hse hse1 hse2
      generalize sendB E X2 o i = R at *
      obtain ⟨y1, R2⟩ := R
      cases y1 with
      | false =>
        obtain ⟨I3, e3, C3, F3⟩ := blk_code (T := T) sh hE C2 ho
        refine ⟨g, I3, T, ?_, ?_, FX_tr (FX_tr F1 F2) F3, Ext_rf⟩
        · exact (if_pos (show nI (b01 false) = (0 : Int32) by decide)).trans e3
        · rw [workT_f]; exact C3
      | true =>
        obtain ⟨l1, l2⟩ := k3 rfl
        simp only at l1 l2 k1 kB kN C2
        obtain ⟨R, hR⟩ : ∃ R : Bool × Dy, R = (true, R2) := ⟨_, rfl⟩
        have hR2 : R2 = R.2 := by rw [hR]
        rw [hR2] at l1 l2 k1 kB kN C2
        dsimp only
        rw [if_neg (show ¬ nI (b01 true) = (0 : Int32) by decide)]
        rw [hR2]
        cases b with
        | zero =>
          refine ⟨g, I2, T, if_pos (show nI 0 = (0 : Int32) by decide), C2, FX_tr F1 F2, Ext_rf⟩
        | succ b =>
          rw [if_neg (nI_ne0 (by omega) hb31)]
          obtain ⟨g3, I3, T3, e3, C3, F3, X3⟩ := take_code (T := T) sh h550 hE hA k1 kB hlo2 hT C2 hs l1
          obtain ⟨m1', m2⟩ := takes_inv hE hlo hs k1 kB l1 l2
          have mN := takes_N (E := E) (D := R.2) (o := o) (i := i) (spt o i)
          have h550' : 550 ≤ tN T3 := Nat.le_trans h550 X3.2.2.1
          have sh3 := X3.sm h550 sh
          have hpre : (if nI o = (0 : Int32) then (ck ((I2, T) : Mem) 10 11 <| cI (f_sm_takeInput 10 (20 + 33 * o) (20 + 33 * o + 18 + 5 * i) ((I2, T) : Mem)) fun v8 M7 => f_sm_work_100 (f_sm_work_33 n) 10 (nI o) (nI i) (20 + 33 * o) (20 + 33 * o + 18 + 5 * i) (nI (b + 1)) v8 M7) else ck ((I2, T) : Mem) 10 11 <| cI (f_sm_takeItem 10 (nI o) (nI i) (20 + 33 * o) (20 + 33 * o + 18 + 5 * i) ((I2, T) : Mem)) fun v6 M5 => f_sm_work_100 (f_sm_work_33 n) 10 (nI o) (nI i) (20 + 33 * o) (20 + 33 * o + 18 + 5 * i) (nI (b + 1)) v6 M5) = f_sm_work_100 (f_sm_work_33 n) 10 (nI o) (nI i) (20 + 33 * o) (20 + 33 * o + 18 + 5 * i) (nI (b + 1)) (nI (b01 (takes E R.2 o i).1)) ((I3, T3) : Mem) := by
            by_cases hz : nI o = nI 0
            · rw [if_pos hz] at e3
              rw [show (0 : Int32) = nI 0 from rfl, if_pos hz, ck_t ksm, e3, cI_s]
            · rw [if_neg hz] at e3
              rw [show (0 : Int32) = nI 0 from rfl, if_neg hz, ck_t ksm, e3, cI_s]
          rw [hpre]
          unfold f_sm_work_100 workT
          simp only [↓reduceIte]
          cases ht : (takes E R.2 o i).1 with
          | false =>
            have kop1 := (sh3.op (o := o) (by omega)).1
            obtain ⟨C4, F4⟩ := CT_I (o := o) (v := dI (takes E R.2 o i).2 o + nI 1) hE C3 (by omega)
            have hi4 := (C3.2.2.2.2.2.2.1 o (by omega)).2.2.2
            refine ⟨g3, _, T3, ?_, ?_, FX_ext (FX_tr (FX_tr F1 F2) F3) X3 F4, X3⟩
            · simp (disch := omega) only [↓gI_t, ↓pI_t, ↓pZ_t, ↓ck_t, ↓aN_t, ↓cI_s, ↓cV_s, ↓cR_s, ↓onR_s, ↓onR_n, ↓nmI_t, ↓reduceIte, gA_t, aI_t, sI_t, aA_t, aB_t, sB_t, rmI_t, dvI_t, nI_add, pk_mul, pk_sub, nI_leI, nI_ltI, nI_eq, n_leT, n_leF, n_ltT, n_ltF, n_eqT, n_eqF, u2_ne, u2_at, u2_nj, r2_ne, r2_at, ↓i_neg1, m1_ne, m1_en, m1_lt, m1_le, m1_nlt, m1_nle, i_lits, true_and, and_true, b01, Bool.false_eq_true, kop1, hi4]
            · simp only [Bool.false_eq_true, ↓reduceIte]
              exact C4
          | true =>
            obtain ⟨g4, I4, T4, e4, C4, F4, X4⟩ := work_code hE hA hlo hlo2 hT hs b n (takes E R.2 o i).2 g3 I3 T3 sh3 h550' m1' m2 C3 (by omega) (by omega)
            refine ⟨g4, I4, T4, ?_, ?_, FX_ext (FX_tr (FX_tr F1 F2) F3) X3 F4, Ext_tr X3 X4⟩
            · rw [if_neg (show ¬ nI (b01 true) = (0 : Int32) by decide)]
              have : nI (b + 1) + (-1 : Int32) = nI b := pk_m1 b
              rw [this]
              exact e4
            · simp only [↓reduceIte]
              exact C4
theorem smWork_code (sh : shSm T) (h550 : 550 ≤ tN T) (hE : okE E) (hA : okA E) (hlo : lo ≤ eT E) (hlo2 : eT E - lo < 40000) (hT : eT E < 2 ^ 30) (hs : vS E o i) (hI : Inv E D) (hB : Bd E D lo ag) (hC : CT E D g Q I T) (hN : dN D (spt o i) + 18 < 2 ^ 31) : ∃ g' I' T', f_sm_work 10 (nI o) (nI i) ((I, T) : Mem) = some ((I', T') : Mem) ∧ CT E (works E o i (eR E) D) g' Q I' T' ∧ FX T I I' ∧ Ext T T' := by
  have n4 := hE.1
  have ho := hs.1
  have i3 := hs.i3 hE
  have r5 := hE.2.2.2.2.2.2.2.2.2.2.1.2
  have e1 := sm_opAt (T := T) (o := o) sh hC.1 n4 (by omega)
  rw [if_pos ho] at e1
  have e2 := sm_inAt (T := T) (o := o) (i := i) sh hC.1 hE (by omega) (by omega)
  rw [if_pos ⟨ho, hs.2⟩] at e2
  have hrt := hC.1.2.2.1
  obtain ⟨g', I1, T1, e3, C1, F1, X1⟩ := work_code (Q := Q) hE hA hlo hlo2 hT hs (eR E) FU D g I T sh h550 hI hB hC (by unfold FU; omega) (by omega)
  have ksm := sh.1
  have ks0 := sh.2.1
  have k11 := sh.2.2.2.2.2.2.1
  refine ⟨g', I1, T1, ?_, C1, F1, X1⟩
  unfold f_sm_work
  simp (disch := omega) only [↓gI_t, ↓pI_t, ↓pZ_t, ↓ck_t, ↓aN_t, ↓cI_s, ↓cV_s, ↓cR_s, ↓onR_s, ↓onR_n, ↓nmI_t, ↓reduceIte, gA_t, aI_t, sI_t, aA_t, aB_t, sB_t, rmI_t, dvI_t, nI_add, pk_mul, pk_sub, nI_leI, nI_ltI, nI_eq, n_leT, n_leF, n_ltT, n_ltF, n_eqT, n_eqF, u2_ne, u2_at, u2_nj, r2_ne, r2_at, ↓i_neg1, m1_ne, m1_en, m1_lt, m1_le, m1_nlt, m1_nle, i_lits, true_and, and_true, ksm, e1, e2, ks0, k11, hrt, e3]
end
