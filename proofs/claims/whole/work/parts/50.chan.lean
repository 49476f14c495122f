/-! THE CLASS: rows of records, channels -/
def shRc (T : Tl) (p m : Nat) : Prop := tK T p = 9 ∧ tR T p 0 = some (p + 1) ∧ tR T p 1 = some (p + 2) ∧ tR T p 2 = some (p + 3) ∧ tK T (p + 1) = 100 ∧ tK T (p + 2) = 100 ∧ tK T (p + 3) = 100 ∧ tL T (p + 1) = m ∧ tL T (p + 2) = m ∧ tL T (p + 3) = m
def m3 (m : Nat) : Prop := m = 4 ∨ m = 32 ∨ m = 64
def Rng (I : Iw) (p m : Nat) (l : List Rec) : Prop := l.length ≤ m ∧ I p 3 = nI (m - 1) ∧ I p 5 = nI l.length ∧ ∃ h, h < m ∧ I p 4 = nI h ∧ RA (I (p + 1)) m h (l.map fun r => kv r.1) ∧ RA (I (p + 2)) m h (l.map fun r => r.2.1) ∧ RA (I (p + 3)) m h (l.map fun r => nI r.2.2)
section
variable {T : Tl} {I : Iw} {p m : Nat} {l : List Rec}
theorem Rng_cg {I' : Iw} (h : Rng I p m l) (f : ∀ a, p ≤ a → a < p + 4 → I' a = I a) : Rng I' p m l := by
  unfold Rng at h ⊢
  rw [f p (by omega) (by omega), f (p + 1) (by omega) (by omega), f (p + 2) (by omega) (by omega), f (p + 3) (by omega) (by omega)]
  exact h
theorem rc_add (hm : m3 m) (sh : shRc T p m) (h : Rng I p m l) (hl : l.length < m) (r : Rec) : ∃ I', f_rc_add p (kv r.1) r.2.1 (nI r.2.2) ((I, T) : Mem) = some ((I', T) : Mem) ∧ Frm p 4 I I' ∧ Rng I' p m (l ++ [r]) := by
  unfold shRc at sh
  obtain ⟨a1, a2, a3, hd, b1, b2, b3, b4, b5⟩ := h
  have m64 : m ≤ 64 := by unfold m3 at hm; omega
  have e : nI (hd + l.length) &&& nI (m - 1) = nI ((hd + l.length) % m) := msk hm (by omega)
  obtain ⟨x, hx⟩ : ∃ x, x = (hd + l.length) % m := ⟨_, rfl⟩
  have hxm : x < m := by rw [hx]; exact Nat.mod_lt _ (by omega)
  rw [← hx] at e
  refine ⟨u2 (u2 (u2 (u2 I (p + 1) x (kv r.1)) (p + 2) x r.2.1) (p + 3) x (nI r.2.2)) p 5 (nI (l.length + 1)), ?_, ?_, ?_⟩
  · unfold f_rc_add
    simp (disch := omega) only [↓gI_t, ↓pI_t, ↓pZ_t, ↓ck_t, ↓aN_t, ↓cI_s, ↓cV_s, ↓cR_s, ↓onR_s, ↓onR_n, ↓nmI_t, ↓reduceIte, gA_t, aI_t, sI_t, aA_t, aB_t, sB_t, rmI_t, dvI_t, nI_add, pk_mul, pk_sub, nI_leI, nI_ltI, nI_eq, n_leT, n_leF, n_ltT, n_ltF, n_eqT, n_eqF, u2_ne, u2_at, u2_nj, r2_ne, r2_at, ↓i_neg1, m1_ne, m1_en, m1_lt, m1_le, m1_nlt, m1_nle, i_lits, true_and, and_true, sh, a2, a3, b2, e]
  · exact Frm_u2 (Frm_u2 (Frm_u2 (Frm_u2 Frm_rf (by omega) (by omega)) (by omega) (by omega)) (by omega) (by omega)) (by omega) (by omega)
  · have r1 := RA_push (row' := upw (I (p + 1)) x (kv r.1)) (v := kv r.1) hm b3 (by simpa using hl) (by rw [List.length_map, ← hx, upw_eq]) (fun y hy => by rw [List.length_map, ← hx] at hy; exact upw_ne hy)
    have r2 := RA_push (row' := upw (I (p + 2)) x r.2.1) (v := r.2.1) hm b4 (by simpa using hl) (by rw [List.length_map, ← hx, upw_eq]) (fun y hy => by rw [List.length_map, ← hx] at hy; exact upw_ne hy)
    have r3 := RA_push (row' := upw (I (p + 3)) x (nI r.2.2)) (v := nI r.2.2) hm b5 (by simpa using hl) (by rw [List.length_map, ← hx, upw_eq]) (fun y hy => by rw [List.length_map, ← hx] at hy; exact upw_ne hy)
    refine ⟨by simp; omega, ?_, ?_, hd, b1, ?_, ?_, ?_, ?_⟩
    · simp (disch := omega) only [↓gI_t, ↓pI_t, ↓pZ_t, ↓ck_t, ↓aN_t, ↓cI_s, ↓cV_s, ↓cR_s, ↓onR_s, ↓onR_n, ↓nmI_t, ↓reduceIte, gA_t, aI_t, sI_t, aA_t, aB_t, sB_t, rmI_t, dvI_t, nI_add, pk_mul, pk_sub, nI_leI, nI_ltI, nI_eq, n_leT, n_leF, n_ltT, n_ltF, n_eqT, n_eqF, u2_ne, u2_at, u2_nj, r2_ne, r2_at, ↓i_neg1, m1_ne, m1_en, m1_lt, m1_le, m1_nlt, m1_nle, i_lits, true_and, and_true, a2]
    · simp (disch := omega) only [↓gI_t, ↓pI_t, ↓pZ_t, ↓ck_t, ↓aN_t, ↓cI_s, ↓cV_s, ↓cR_s, ↓onR_s, ↓onR_n, ↓nmI_t, ↓reduceIte, gA_t, aI_t, sI_t, aA_t, aB_t, sB_t, rmI_t, dvI_t, nI_add, pk_mul, pk_sub, nI_leI, nI_ltI, nI_eq, n_leT, n_leF, n_ltT, n_ltF, n_eqT, n_eqF, u2_ne, u2_at, u2_nj, r2_ne, r2_at, ↓i_neg1, m1_ne, m1_en, m1_lt, m1_le, m1_nlt, m1_nle, i_lits, true_and, and_true]
      simp
    · simp (disch := omega) only [↓gI_t, ↓pI_t, ↓pZ_t, ↓ck_t, ↓aN_t, ↓cI_s, ↓cV_s, ↓cR_s, ↓onR_s, ↓onR_n, ↓nmI_t, ↓reduceIte, gA_t, aI_t, sI_t, aA_t, aB_t, sB_t, rmI_t, dvI_t, nI_add, pk_mul, pk_sub, nI_leI, nI_ltI, nI_eq, n_leT, n_leF, n_ltT, n_ltF, n_eqT, n_eqF, u2_ne, u2_at, u2_nj, r2_ne, r2_at, ↓i_neg1, m1_ne, m1_en, m1_lt, m1_le, m1_nlt, m1_nle, i_lits, true_and, and_true, b2]
    · rw [List.map_append]
      simp (disch := omega) only [u2_ne, u2_rw1]
      exact r1
    · rw [List.map_append]
      simp (disch := omega) only [u2_ne, u2_rw1]
      exact r2
    · rw [List.map_append]
      simp (disch := omega) only [u2_ne, u2_rw1]
      exact r3
theorem rc_at (hm : m3 m) (sh : shRc T p m) (h : Rng I p m l) {j : Nat} (hj : j < l.length) : f_rc_keyAt p (nI j) ((I, T) : Mem) = some (kv l[j].1, ((I, T) : Mem)) ∧ f_rc_valueAt p (nI j) ((I, T) : Mem) = some (l[j].2.1, ((I, T) : Mem)) ∧ f_rc_birthAt p (nI j) ((I, T) : Mem) = some (nI l[j].2.2, ((I, T) : Mem)) := by
  unfold shRc at sh
  obtain ⟨a1, a2, a3, hd, b1, b2, b3, b4, b5⟩ := h
  have m64 : m ≤ 64 := by unfold m3 at hm; omega
  have e : nI (hd + j) &&& nI (m - 1) = nI ((hd + j) % m) := msk hm (by omega)
  have hxm : (hd + j) % m < m := Nat.mod_lt _ (by omega)
  have c1 := b3 j (by simpa using hj)
  have c2 := b4 j (by simpa using hj)
  have c3 := b5 j (by simpa using hj)
  simp only [List.getElem_map] at c1 c2 c3
  generalize (hd + j) % m = x at *
  refine ⟨?_, ?_, ?_⟩
  · unfold f_rc_keyAt
    simp (disch := omega) only [↓gI_t, ↓pI_t, ↓pZ_t, ↓ck_t, ↓aN_t, ↓cI_s, ↓cV_s, ↓cR_s, ↓onR_s, ↓onR_n, ↓nmI_t, ↓reduceIte, gA_t, aI_t, sI_t, aA_t, aB_t, sB_t, rmI_t, dvI_t, nI_add, pk_mul, pk_sub, nI_leI, nI_ltI, nI_eq, n_leT, n_leF, n_ltT, n_ltF, n_eqT, n_eqF, u2_ne, u2_at, u2_nj, r2_ne, r2_at, ↓i_neg1, m1_ne, m1_en, m1_lt, m1_le, m1_nlt, m1_nle, i_lits, true_and, and_true, sh, a2, b2, e, c1]
  · unfold f_rc_valueAt
    simp (disch := omega) only [↓gI_t, ↓pI_t, ↓pZ_t, ↓ck_t, ↓aN_t, ↓cI_s, ↓cV_s, ↓cR_s, ↓onR_s, ↓onR_n, ↓nmI_t, ↓reduceIte, gA_t, aI_t, sI_t, aA_t, aB_t, sB_t, rmI_t, dvI_t, nI_add, pk_mul, pk_sub, nI_leI, nI_ltI, nI_eq, n_leT, n_leF, n_ltT, n_ltF, n_eqT, n_eqF, u2_ne, u2_at, u2_nj, r2_ne, r2_at, ↓i_neg1, m1_ne, m1_en, m1_lt, m1_le, m1_nlt, m1_nle, i_lits, true_and, and_true, sh, a2, b2, e, c2]
  · unfold f_rc_birthAt
    simp (disch := omega) only [↓gI_t, ↓pI_t, ↓pZ_t, ↓ck_t, ↓aN_t, ↓cI_s, ↓cV_s, ↓cR_s, ↓onR_s, ↓onR_n, ↓nmI_t, ↓reduceIte, gA_t, aI_t, sI_t, aA_t, aB_t, sB_t, rmI_t, dvI_t, nI_add, pk_mul, pk_sub, nI_leI, nI_ltI, nI_eq, n_leT, n_leF, n_ltT, n_ltF, n_eqT, n_eqF, u2_ne, u2_at, u2_nj, r2_ne, r2_at, ↓i_neg1, m1_ne, m1_en, m1_lt, m1_le, m1_nlt, m1_nle, i_lits, true_and, and_true, sh, a2, b2, e, c3]
theorem rc_at0 {r : Rec} (hm : m3 m) (sh : shRc T p m) (h : Rng I p m (r :: l)) : f_rc_keyAt p (nI 0) ((I, T) : Mem) = some (kv r.1, ((I, T) : Mem)) ∧ f_rc_valueAt p (nI 0) ((I, T) : Mem) = some (r.2.1, ((I, T) : Mem)) ∧ f_rc_birthAt p (nI 0) ((I, T) : Mem) = some (nI r.2.2, ((I, T) : Mem)) := rc_at hm sh h (j := 0) (by simp)
theorem rc_pop {r : Rec} (hm : m3 m) (sh : shRc T p m) (h : Rng I p m (r :: l)) : ∃ I', f_rc_removeFirst p ((I, T) : Mem) = some ((I', T) : Mem) ∧ Frm p 1 I I' ∧ Rng I' p m l := by
  unfold shRc at sh
  obtain ⟨a1, a2, a3, hd, b1, b2, b3, b4, b5⟩ := h
  have m64 : m ≤ 64 := by unfold m3 at hm; omega
  have e : nI (hd + 1) &&& nI (m - 1) = nI ((hd + 1) % m) := msk hm (by omega)
  have hxm : (hd + 1) % m < m := Nat.mod_lt _ (by omega)
  rw [List.length_cons] at a1 a3
  have r1 := RA_pop hm b3
  have r2 := RA_pop hm b4
  have r3 := RA_pop hm b5
  generalize (hd + 1) % m = x at *
  refine ⟨u2 (u2 I p 4 (nI x)) p 5 (nI l.length), ?_, ?_, ?_⟩
  · unfold f_rc_removeFirst
    simp (disch := omega) only [↓gI_t, ↓pI_t, ↓pZ_t, ↓ck_t, ↓aN_t, ↓cI_s, ↓cV_s, ↓cR_s, ↓onR_s, ↓onR_n, ↓nmI_t, ↓reduceIte, gA_t, aI_t, sI_t, aA_t, aB_t, sB_t, rmI_t, dvI_t, nI_add, pk_mul, pk_sub, nI_leI, nI_ltI, nI_eq, n_leT, n_leF, n_ltT, n_ltF, n_eqT, n_eqF, u2_ne, u2_at, u2_nj, r2_ne, r2_at, ↓i_neg1, m1_ne, m1_en, m1_lt, m1_le, m1_nlt, m1_nle, i_lits, true_and, and_true, sh, a2, a3, b2, e]
    simp only [Nat.add_sub_cancel]
  · exact Frm_u2 (Frm_u2 Frm_rf (by omega) (by omega)) (by omega) (by omega)
  · refine ⟨by omega, ?_, ?_, x, hxm, ?_, ?_, ?_, ?_⟩
    · simp (disch := omega) only [↓gI_t, ↓pI_t, ↓pZ_t, ↓ck_t, ↓aN_t, ↓cI_s, ↓cV_s, ↓cR_s, ↓onR_s, ↓onR_n, ↓nmI_t, ↓reduceIte, gA_t, aI_t, sI_t, aA_t, aB_t, sB_t, rmI_t, dvI_t, nI_add, pk_mul, pk_sub, nI_leI, nI_ltI, nI_eq, n_leT, n_leF, n_ltT, n_ltF, n_eqT, n_eqF, u2_ne, u2_at, u2_nj, r2_ne, r2_at, ↓i_neg1, m1_ne, m1_en, m1_lt, m1_le, m1_nlt, m1_nle, i_lits, true_and, and_true, a2]
    · simp (disch := omega) only [↓gI_t, ↓pI_t, ↓pZ_t, ↓ck_t, ↓aN_t, ↓cI_s, ↓cV_s, ↓cR_s, ↓onR_s, ↓onR_n, ↓nmI_t, ↓reduceIte, gA_t, aI_t, sI_t, aA_t, aB_t, sB_t, rmI_t, dvI_t, nI_add, pk_mul, pk_sub, nI_leI, nI_ltI, nI_eq, n_leT, n_leF, n_ltT, n_ltF, n_eqT, n_eqF, u2_ne, u2_at, u2_nj, r2_ne, r2_at, ↓i_neg1, m1_ne, m1_en, m1_lt, m1_le, m1_nlt, m1_nle, i_lits, true_and, and_true]
    · simp (disch := omega) only [↓gI_t, ↓pI_t, ↓pZ_t, ↓ck_t, ↓aN_t, ↓cI_s, ↓cV_s, ↓cR_s, ↓onR_s, ↓onR_n, ↓nmI_t, ↓reduceIte, gA_t, aI_t, sI_t, aA_t, aB_t, sB_t, rmI_t, dvI_t, nI_add, pk_mul, pk_sub, nI_leI, nI_ltI, nI_eq, n_leT, n_leF, n_ltT, n_ltF, n_eqT, n_eqF, u2_ne, u2_at, u2_nj, r2_ne, r2_at, ↓i_neg1, m1_ne, m1_en, m1_lt, m1_le, m1_nlt, m1_nle, i_lits, true_and, and_true]
    · simp (disch := omega) only [u2_ne]
      exact r1
    · simp (disch := omega) only [u2_ne]
      exact r2
    · simp (disch := omega) only [u2_ne]
      exact r3
theorem rc_wipe (hm : m3 m) (sh : shRc T p m) (h : I p 3 = nI (m - 1)) : ∃ I', f_rc_wipe p ((I, T) : Mem) = some ((I', T) : Mem) ∧ Frm p 1 I I' ∧ Rng I' p m [] := by
  unfold shRc at sh
  refine ⟨u2 (u2 I p 4 (nI 0)) p 5 (nI 0), ?_, ?_, ?_⟩
  · unfold f_rc_wipe
    simp (disch := omega) only [↓gI_t, ↓pI_t, ↓pZ_t, ↓ck_t, ↓aN_t, ↓cI_s, ↓cV_s, ↓cR_s, ↓onR_s, ↓onR_n, ↓nmI_t, ↓reduceIte, gA_t, aI_t, sI_t, aA_t, aB_t, sB_t, rmI_t, dvI_t, nI_add, pk_mul, pk_sub, nI_leI, nI_ltI, nI_eq, n_leT, n_leF, n_ltT, n_ltF, n_eqT, n_eqF, u2_ne, u2_at, u2_nj, r2_ne, r2_at, ↓i_neg1, m1_ne, m1_en, m1_lt, m1_le, m1_nlt, m1_nle, i_lits, true_and, and_true, sh]
  · exact Frm_u2 (Frm_u2 Frm_rf (by omega) (by omega)) (by omega) (by omega)
  · have hp : 0 < m := by unfold m3 at hm; omega
    refine ⟨by simp, ?_, ?_, 0, hp, ?_, RA_nil, RA_nil, RA_nil⟩
    · simp (disch := omega) only [↓gI_t, ↓pI_t, ↓pZ_t, ↓ck_t, ↓aN_t, ↓cI_s, ↓cV_s, ↓cR_s, ↓onR_s, ↓onR_n, ↓nmI_t, ↓reduceIte, gA_t, aI_t, sI_t, aA_t, aB_t, sB_t, rmI_t, dvI_t, nI_add, pk_mul, pk_sub, nI_leI, nI_ltI, nI_eq, n_leT, n_leF, n_ltT, n_ltF, n_eqT, n_eqF, u2_ne, u2_at, u2_nj, r2_ne, r2_at, ↓i_neg1, m1_ne, m1_en, m1_lt, m1_le, m1_nlt, m1_nle, i_lits, true_and, and_true, h]
    · simp (disch := omega) only [↓gI_t, ↓pI_t, ↓pZ_t, ↓ck_t, ↓aN_t, ↓cI_s, ↓cV_s, ↓cR_s, ↓onR_s, ↓onR_n, ↓nmI_t, ↓reduceIte, gA_t, aI_t, sI_t, aA_t, aB_t, sB_t, rmI_t, dvI_t, nI_add, pk_mul, pk_sub, nI_leI, nI_ltI, nI_eq, n_leT, n_leF, n_ltT, n_ltF, n_eqT, n_eqF, u2_ne, u2_at, u2_nj, r2_ne, r2_at, ↓i_neg1, m1_ne, m1_en, m1_lt, m1_le, m1_nlt, m1_nle, i_lits, true_and, and_true]
      rfl
    · simp (disch := omega) only [↓gI_t, ↓pI_t, ↓pZ_t, ↓ck_t, ↓aN_t, ↓cI_s, ↓cV_s, ↓cR_s, ↓onR_s, ↓onR_n, ↓nmI_t, ↓reduceIte, gA_t, aI_t, sI_t, aA_t, aB_t, sB_t, rmI_t, dvI_t, nI_add, pk_mul, pk_sub, nI_leI, nI_ltI, nI_eq, n_leT, n_leF, n_ltT, n_ltF, n_eqT, n_eqF, u2_ne, u2_at, u2_nj, r2_ne, r2_at, ↓i_neg1, m1_ne, m1_en, m1_lt, m1_le, m1_nlt, m1_nle, i_lits, true_and, and_true]
end
-- channels
def flatQ : List Bt → List Rec
  | [] => []
  | none :: q => flatQ q
  | some l :: q => l ++ flatQ q
def flatH (h : Ch) : List Rec := flatQ h.1 ++ h.2.1
def blen : Bt → Int32
  | none => m1
  | some l => nI l.length
theorem flatQ_app : ∀ (a b : List Bt), flatQ (a ++ b) = flatQ a ++ flatQ b
  | [], b => rfl
  | none :: a, b => by simp only [List.cons_append, flatQ, flatQ_app a b]
  | some l :: a, b => by simp only [List.cons_append, flatQ, flatQ_app a b, List.append_assoc]
theorem flatQ_len : ∀ (q : List Bt) (s : Nat), (∀ l, some l ∈ q → l.length ≤ s) → (flatQ q).length ≤ q.length * s
  | [], s, _ => by simp [flatQ]
  | none :: q, s, h => by
    have := flatQ_len q s (fun l hl => h l (List.mem_cons_of_mem _ hl))
    simp only [flatQ, List.length_cons, Nat.add_mul]
    omega
  | some l :: q, s, h => by
    have h1 := flatQ_len q s (fun l hl => h l (List.mem_cons_of_mem _ hl))
    have h2 := h l List.mem_cons_self
    simp only [flatQ, List.length_cons, List.length_append, Nat.add_mul, Nat.one_mul]
    omega
theorem flatH_len {s c : Nat} {h : Ch} (hh : chOK s c h) (hs : s ≤ 4) (hc : c ≤ 4) : (flatH h).length ≤ 20 := by
  have h1 := flatQ_len h.1 s (fun l hl => (hh.2.2 l hl).2)
  have h2 : h.1.length * s ≤ 4 * 4 := Nat.mul_le_mul (by have := hh.1; omega) hs
  have h3 := hh.2.1
  simp only [flatH, List.length_append]
  omega
def shCh (T : Tl) (p : Nat) : Prop := tK T p = 1 ∧ tR T p 0 = some 11 ∧ tR T p 1 = some (p + 1) ∧ tR T p 2 = some (p + 5) ∧ tK T (p + 5) = 100 ∧ tL T (p + 5) = 4 ∧ tK T 11 = 10 ∧ 20 ≤ p ∧ shRc T (p + 1) 32
def ChC (I : Iw) (p : Nat) (h : Ch) : Prop := Rng I (p + 1) 32 (flatH h) ∧ I p 4 = nI h.1.length ∧ I p 5 = nI h.2.1.length ∧ I p 6 = nI h.2.2 ∧ ∃ f, f < 4 ∧ I p 3 = nI f ∧ RA (I (p + 5)) 4 f (h.1.map blen)
def SeC (I : Iw) (s g c : Nat) : Prop := I 11 0 = nI s ∧ I 11 1 = nI g ∧ I 11 2 = nI c
section
variable {T : Tl} {I : Iw} {p s g c : Nat} {x : Ch}
theorem ChC_cg {I' : Iw} (h : ChC I p x) (f : ∀ a, p ≤ a → a < p + 6 → I' a = I a) : ChC I' p x := by
  obtain ⟨h1, h2, h3, h4, h5⟩ := h
  refine ⟨Rng_cg h1 (fun a ha hb => f a (by omega) (by omega)), ?_⟩
  rw [f p (by omega) (by omega), f (p + 5) (by omega) (by omega)]
  exact ⟨h2, h3, h4, h5⟩
theorem m3_32 : m3 32 := Or.inr (Or.inl rfl)
theorem m3_4 : m3 4 := Or.inl rfl
theorem m3_64 : m3 64 := Or.inr (Or.inr rfl)
theorem ch_hasRoom (sh : shCh T p) (hs : SeC I s g c) (h : ChC I p x) (hc : c ≤ 4) (hq : x.1.length ≤ 4) : f_ch_hasRoom p ((I, T) : Mem) = some (nI (b01 (decide (x.1.length < c))), ((I, T) : Mem)) := by
  unfold shCh at sh
  obtain ⟨h1, h2, h3, h4, h5⟩ := h
  obtain ⟨s1, s2, s3⟩ := hs
  unfold f_ch_hasRoom
  simp (disch := omega) only [↓gI_t, ↓pI_t, ↓pZ_t, ↓ck_t, ↓aN_t, ↓cI_s, ↓cV_s, ↓cR_s, ↓onR_s, ↓onR_n, ↓nmI_t, ↓reduceIte, gA_t, aI_t, sI_t, aA_t, aB_t, sB_t, rmI_t, dvI_t, nI_add, pk_mul, pk_sub, nI_leI, nI_ltI, nI_eq, n_leT, n_leF, n_ltT, n_ltF, n_eqT, n_eqF, u2_ne, u2_at, u2_nj, r2_ne, r2_at, ↓i_neg1, m1_ne, m1_en, m1_lt, m1_le, m1_nlt, m1_nle, i_lits, true_and, and_true, sh, h2, s3]
  by_cases z : x.1.length < c
  · simp (disch := omega) only [↓gI_t, ↓pI_t, ↓pZ_t, ↓ck_t, ↓aN_t, ↓cI_s, ↓cV_s, ↓cR_s, ↓onR_s, ↓onR_n, ↓nmI_t, ↓reduceIte, gA_t, aI_t, sI_t, aA_t, aB_t, sB_t, rmI_t, dvI_t, nI_add, pk_mul, pk_sub, nI_leI, nI_ltI, nI_eq, n_leT, n_leF, n_ltT, n_ltF, n_eqT, n_eqF, u2_ne, u2_at, u2_nj, r2_ne, r2_at, ↓i_neg1, m1_ne, m1_en, m1_lt, m1_le, m1_nlt, m1_nle, i_lits, true_and, and_true]
    simp [b01, z]
  · simp (disch := omega) only [↓gI_t, ↓pI_t, ↓pZ_t, ↓ck_t, ↓aN_t, ↓cI_s, ↓cV_s, ↓cR_s, ↓onR_s, ↓onR_n, ↓nmI_t, ↓reduceIte, gA_t, aI_t, sI_t, aA_t, aB_t, sB_t, rmI_t, dvI_t, nI_add, pk_mul, pk_sub, nI_leI, nI_ltI, nI_eq, n_leT, n_leF, n_ltT, n_ltF, n_eqT, n_eqF, u2_ne, u2_at, u2_nj, r2_ne, r2_at, ↓i_neg1, m1_ne, m1_en, m1_lt, m1_le, m1_nlt, m1_nle, i_lits, true_and, and_true]
    simp [b01, z]
theorem ch_takesRecord (sh : shCh T p) (hs : SeC I s g c) (h : ChC I p x) (hs4 : s ≤ 4) (hc : c ≤ 4) (hh : chOK s c x) : f_ch_takesRecord p ((I, T) : Mem) = some (nI (b01 (tkR s c x)), ((I, T) : Mem)) := by
  have q4 := hh.1
  have o4 := hh.2.1
  have e := ch_hasRoom sh hs h hc (by omega)
  unfold shCh at sh
  obtain ⟨h1, h2, h3, h4, h5⟩ := h
  obtain ⟨s1, s2, s3⟩ := hs
  unfold f_ch_takesRecord
  simp (disch := omega) only [↓gI_t, ↓pI_t, ↓pZ_t, ↓ck_t, ↓aN_t, ↓cI_s, ↓cV_s, ↓cR_s, ↓onR_s, ↓onR_n, ↓nmI_t, ↓reduceIte, gA_t, aI_t, sI_t, aA_t, aB_t, sB_t, rmI_t, dvI_t, nI_add, pk_mul, pk_sub, nI_leI, nI_ltI, nI_eq, n_leT, n_leF, n_ltT, n_ltF, n_eqT, n_eqF, u2_ne, u2_at, u2_nj, r2_ne, r2_at, ↓i_neg1, m1_ne, m1_en, m1_lt, m1_le, m1_nlt, m1_nle, i_lits, true_and, and_true, sh, h3, s1, e]
  by_cases z : x.2.1.length < s
  · simp (disch := omega) only [↓gI_t, ↓pI_t, ↓pZ_t, ↓ck_t, ↓aN_t, ↓cI_s, ↓cV_s, ↓cR_s, ↓onR_s, ↓onR_n, ↓nmI_t, ↓reduceIte, gA_t, aI_t, sI_t, aA_t, aB_t, sB_t, rmI_t, dvI_t, nI_add, pk_mul, pk_sub, nI_leI, nI_ltI, nI_eq, n_leT, n_leF, n_ltT, n_ltF, n_eqT, n_eqF, u2_ne, u2_at, u2_nj, r2_ne, r2_at, ↓i_neg1, m1_ne, m1_en, m1_lt, m1_le, m1_nlt, m1_nle, i_lits, true_and, and_true]
    simp [b01, tkR, z]
  · simp (disch := omega) only [↓gI_t, ↓pI_t, ↓pZ_t, ↓ck_t, ↓aN_t, ↓cI_s, ↓cV_s, ↓cR_s, ↓onR_s, ↓onR_n, ↓nmI_t, ↓reduceIte, gA_t, aI_t, sI_t, aA_t, aB_t, sB_t, rmI_t, dvI_t, nI_add, pk_mul, pk_sub, nI_leI, nI_ltI, nI_eq, n_leT, n_leF, n_ltT, n_ltF, n_eqT, n_eqF, u2_ne, u2_at, u2_nj, r2_ne, r2_at, ↓i_neg1, m1_ne, m1_en, m1_lt, m1_le, m1_nlt, m1_nle, i_lits, true_and, and_true]
    by_cases y : x.1.length < c <;> simp [b01, tkR, z, y, nI_eq]
theorem ch_takesBarrier (sh : shCh T p) (hs : SeC I s g c) (h : ChC I p x) (hs4 : s ≤ 4) (hc : c ≤ 4) (hh : chOK s c x) : f_ch_takesBarrier p ((I, T) : Mem) = some (nI (b01 (tkB c x)), ((I, T) : Mem)) := by
  have q4 := hh.1
  have o4 := hh.2.1
  unfold shCh at sh
  obtain ⟨h1, h2, h3, h4, h5⟩ := h
  obtain ⟨s1, s2, s3⟩ := hs
  unfold f_ch_takesBarrier f_ch_takesBarrier_12
  simp (disch := omega) only [↓gI_t, ↓pI_t, ↓pZ_t, ↓ck_t, ↓aN_t, ↓cI_s, ↓cV_s, ↓cR_s, ↓onR_s, ↓onR_n, ↓nmI_t, ↓reduceIte, gA_t, aI_t, sI_t, aA_t, aB_t, sB_t, rmI_t, dvI_t, nI_add, pk_mul, pk_sub, nI_leI, nI_ltI, nI_eq, n_leT, n_leF, n_ltT, n_ltF, n_eqT, n_eqF, u2_ne, u2_at, u2_nj, r2_ne, r2_at, ↓i_neg1, m1_ne, m1_en, m1_lt, m1_le, m1_nlt, m1_nle, i_lits, true_and, and_true, sh, h3, s3, h2]
  by_cases z : x.2.1 = []
  · rw [if_pos (by rw [z]; simp)]
    by_cases y : x.1.length < c
    · simp (disch := omega) only [↓gI_t, ↓pI_t, ↓pZ_t, ↓ck_t, ↓aN_t, ↓cI_s, ↓cV_s, ↓cR_s, ↓onR_s, ↓onR_n, ↓nmI_t, ↓reduceIte, gA_t, aI_t, sI_t, aA_t, aB_t, sB_t, rmI_t, dvI_t, nI_add, pk_mul, pk_sub, nI_leI, nI_ltI, nI_eq, n_leT, n_leF, n_ltT, n_ltF, n_eqT, n_eqF, u2_ne, u2_at, u2_nj, r2_ne, r2_at, ↓i_neg1, m1_ne, m1_en, m1_lt, m1_le, m1_nlt, m1_nle, i_lits, true_and, and_true]
      simp [b01, tkB, z, y]
    · simp (disch := omega) only [↓gI_t, ↓pI_t, ↓pZ_t, ↓ck_t, ↓aN_t, ↓cI_s, ↓cV_s, ↓cR_s, ↓onR_s, ↓onR_n, ↓nmI_t, ↓reduceIte, gA_t, aI_t, sI_t, aA_t, aB_t, sB_t, rmI_t, dvI_t, nI_add, pk_mul, pk_sub, nI_leI, nI_ltI, nI_eq, n_leT, n_leF, n_ltT, n_ltF, n_eqT, n_eqF, u2_ne, u2_at, u2_nj, r2_ne, r2_at, ↓i_neg1, m1_ne, m1_en, m1_lt, m1_le, m1_nlt, m1_nle, i_lits, true_and, and_true]
      simp [b01, tkB, z, y]
  · have zl : 0 < x.2.1.length := List.length_pos_iff.mpr z
    rw [if_neg (by omega)]
    by_cases y : x.1.length + 1 < c
    · simp (disch := omega) only [↓gI_t, ↓pI_t, ↓pZ_t, ↓ck_t, ↓aN_t, ↓cI_s, ↓cV_s, ↓cR_s, ↓onR_s, ↓onR_n, ↓nmI_t, ↓reduceIte, gA_t, aI_t, sI_t, aA_t, aB_t, sB_t, rmI_t, dvI_t, nI_add, pk_mul, pk_sub, nI_leI, nI_ltI, nI_eq, n_leT, n_leF, n_ltT, n_ltF, n_eqT, n_eqF, u2_ne, u2_at, u2_nj, r2_ne, r2_at, ↓i_neg1, m1_ne, m1_en, m1_lt, m1_le, m1_nlt, m1_nle, i_lits, true_and, and_true]
      simp [b01, tkB, z, y]
    · simp (disch := omega) only [↓gI_t, ↓pI_t, ↓pZ_t, ↓ck_t, ↓aN_t, ↓cI_s, ↓cV_s, ↓cR_s, ↓onR_s, ↓onR_n, ↓nmI_t, ↓reduceIte, gA_t, aI_t, sI_t, aA_t, aB_t, sB_t, rmI_t, dvI_t, nI_add, pk_mul, pk_sub, nI_leI, nI_ltI, nI_eq, n_leT, n_leF, n_ltT, n_ltF, n_eqT, n_eqF, u2_ne, u2_at, u2_nj, r2_ne, r2_at, ↓i_neg1, m1_ne, m1_en, m1_lt, m1_le, m1_nlt, m1_nle, i_lits, true_and, and_true]
      simp [b01, tkB, z, y]
theorem ch_hasItem (sh : shCh T p) (h : ChC I p x) (hq : x.1.length ≤ 4) : f_ch_hasItem p ((I, T) : Mem) = some (nI (b01 (!x.1.isEmpty)), ((I, T) : Mem)) := by
  unfold shCh at sh
  obtain ⟨h1, h2, h3, h4, h5⟩ := h
  unfold f_ch_hasItem
  simp (disch := omega) only [↓gI_t, ↓pI_t, ↓pZ_t, ↓ck_t, ↓aN_t, ↓cI_s, ↓cV_s, ↓cR_s, ↓onR_s, ↓onR_n, ↓nmI_t, ↓reduceIte, gA_t, aI_t, sI_t, aA_t, aB_t, sB_t, rmI_t, dvI_t, nI_add, pk_mul, pk_sub, nI_leI, nI_ltI, nI_eq, n_leT, n_leF, n_ltT, n_ltF, n_eqT, n_eqF, u2_ne, u2_at, u2_nj, r2_ne, r2_at, ↓i_neg1, m1_ne, m1_en, m1_lt, m1_le, m1_nlt, m1_nle, i_lits, true_and, and_true, sh, h2]
  cases hz : x.1 with
  | nil => simp (disch := omega) only [↓gI_t, ↓pI_t, ↓pZ_t, ↓ck_t, ↓aN_t, ↓cI_s, ↓cV_s, ↓cR_s, ↓onR_s, ↓onR_n, ↓nmI_t, ↓reduceIte, gA_t, aI_t, sI_t, aA_t, aB_t, sB_t, rmI_t, dvI_t, nI_add, pk_mul, pk_sub, nI_leI, nI_ltI, nI_eq, n_leT, n_leF, n_ltT, n_ltF, n_eqT, n_eqF, u2_ne, u2_at, u2_nj, r2_ne, r2_at, ↓i_neg1, m1_ne, m1_en, m1_lt, m1_le, m1_nlt, m1_nle, i_lits, true_and, and_true, List.length_nil]; rfl
  | cons a q => 
    rw [hz] at hq
    simp only [List.length_cons] at hq ⊢
    simp (disch := omega) only [↓gI_t, ↓pI_t, ↓pZ_t, ↓ck_t, ↓aN_t, ↓cI_s, ↓cV_s, ↓cR_s, ↓onR_s, ↓onR_n, ↓nmI_t, ↓reduceIte, gA_t, aI_t, sI_t, aA_t, aB_t, sB_t, rmI_t, dvI_t, nI_add, pk_mul, pk_sub, nI_leI, nI_ltI, nI_eq, n_leT, n_leF, n_ltT, n_ltF, n_eqT, n_eqF, u2_ne, u2_at, u2_nj, r2_ne, r2_at, ↓i_neg1, m1_ne, m1_en, m1_lt, m1_le, m1_nlt, m1_nle, i_lits, true_and, and_true]
    rfl
theorem ch_isEmpty (sh : shCh T p) (h : ChC I p x) (hh : chOK s c x) (hs4 : s ≤ 4) (hc : c ≤ 4) : f_ch_isEmpty p ((I, T) : Mem) = some (nI (b01 (decide (x.1 = [] ∧ x.2.1 = []))), ((I, T) : Mem)) := by
  have q4 := hh.1
  have o4 := hh.2.1
  unfold shCh at sh
  obtain ⟨h1, h2, h3, h4, h5⟩ := h
  unfold f_ch_isEmpty
  simp (disch := omega) only [↓gI_t, ↓pI_t, ↓pZ_t, ↓ck_t, ↓aN_t, ↓cI_s, ↓cV_s, ↓cR_s, ↓onR_s, ↓onR_n, ↓nmI_t, ↓reduceIte, gA_t, aI_t, sI_t, aA_t, aB_t, sB_t, rmI_t, dvI_t, nI_add, pk_mul, pk_sub, nI_leI, nI_ltI, nI_eq, n_leT, n_leF, n_ltT, n_ltF, n_eqT, n_eqF, u2_ne, u2_at, u2_nj, r2_ne, r2_at, ↓i_neg1, m1_ne, m1_en, m1_lt, m1_le, m1_nlt, m1_nle, i_lits, true_and, and_true, sh, h2, h3]
  by_cases z : x.1 = []
  · rw [if_pos (by rw [z]; rfl)]
    by_cases y : x.2.1 = []
    · rw [if_pos (by rw [y]; rfl)]
      simp [b01, z, y]
    · rw [if_neg (fun w => y (List.length_eq_zero_iff.mp w))]
      simp [b01, z, y]
  · rw [if_neg (fun w => z (List.length_eq_zero_iff.mp w))]
    simp [b01, z]
theorem ch_startsB (sh : shCh T p) (h : ChC I p x) (hq : x.1.length ≤ 4) {b : Bt} {q : List Bt} (hb : x.1 = b :: q) (hl : ∀ l, b = some l → l.length ≤ 4) : f_ch_startsWithBarrier p ((I, T) : Mem) = some (nI (b01 b.isNone), ((I, T) : Mem)) := by
  unfold shCh at sh
  obtain ⟨h1, h2, h3, h4, f, f4, h5, h6⟩ := h
  unfold f_ch_startsWithBarrier
  have hx := h6 0 (by rw [hb]; simp)
  simp only [hb, List.map_cons, List.getElem_cons_zero, Nat.add_zero] at hx
  have hz : 0 < x.1.length := by rw [hb]; simp
  have e : nI f &&& nI 3 = nI (f % 4) := msk3 (by omega)
  have e2 : f % 4 = f := by omega
  rw [e2] at e hx
  simp (disch := omega) only [gI_t, gA_t, onR_s, sh, h2, h5, i_lits, nI_leI, if_neg, e, aI_t, hx, ↓i_neg1]
  cases b with
  | none =>
    have : blen none = m1 := rfl
    simp (disch := omega) only [↓gI_t, ↓pI_t, ↓pZ_t, ↓ck_t, ↓aN_t, ↓cI_s, ↓cV_s, ↓cR_s, ↓onR_s, ↓onR_n, ↓nmI_t, ↓reduceIte, gA_t, aI_t, sI_t, aA_t, aB_t, sB_t, rmI_t, dvI_t, nI_add, pk_mul, pk_sub, nI_leI, nI_ltI, nI_eq, n_leT, n_leF, n_ltT, n_ltF, n_eqT, n_eqF, u2_ne, u2_at, u2_nj, r2_ne, r2_at, ↓i_neg1, m1_ne, m1_en, m1_lt, m1_le, m1_nlt, m1_nle, i_lits, true_and, and_true, this]
    rfl
  | some l =>
    have h7 := hl l rfl
    have : blen (some l) = nI l.length := rfl
    simp (disch := omega) only [↓gI_t, ↓pI_t, ↓pZ_t, ↓ck_t, ↓aN_t, ↓cI_s, ↓cV_s, ↓cR_s, ↓onR_s, ↓onR_n, ↓nmI_t, ↓reduceIte, gA_t, aI_t, sI_t, aA_t, aB_t, sB_t, rmI_t, dvI_t, nI_add, pk_mul, pk_sub, nI_leI, nI_ltI, nI_eq, n_leT, n_leF, n_ltT, n_ltF, n_eqT, n_eqF, u2_ne, u2_at, u2_nj, r2_ne, r2_at, ↓i_neg1, m1_ne, m1_en, m1_lt, m1_le, m1_nlt, m1_nle, i_lits, true_and, and_true, this]
    rfl
/-- a closed batch comes to the end of the queue -/
theorem ch_enqueue {f n : Nat} (sh : shCh T p) (hq : I p 4 = nI n) (hf : I p 3 = nI f) (f4 : f < 4) (n4 : n < 4) (b : Int32) : f_ch_enqueue p b ((I, T) : Mem) = some ((u2 (u2 I (p + 5) ((f + n) % 4) b) p 4 (nI (n + 1)), T) : Mem) := by
  unfold shCh at sh
  unfold f_ch_enqueue
  have e : nI (f + n) &&& nI 3 = nI ((f + n) % 4) := msk3 (by omega)
  simp (disch := omega) only [↓gI_t, ↓pI_t, ↓pZ_t, ↓ck_t, ↓aN_t, ↓cI_s, ↓cV_s, ↓cR_s, ↓onR_s, ↓onR_n, ↓nmI_t, ↓reduceIte, gA_t, aI_t, sI_t, aA_t, aB_t, sB_t, rmI_t, dvI_t, nI_add, pk_mul, pk_sub, nI_leI, nI_ltI, nI_eq, n_leT, n_leF, n_ltT, n_ltF, n_eqT, n_eqF, u2_ne, u2_at, u2_nj, r2_ne, r2_at, ↓i_neg1, m1_ne, m1_en, m1_lt, m1_le, m1_nlt, m1_nle, i_lits, true_and, and_true, sh, hf, hq, e]
end
