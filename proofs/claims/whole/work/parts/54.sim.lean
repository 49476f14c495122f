/-! THE CLASS: the simulation's looks -/
def shIn (T : Tl) (q : Nat) : Prop := tK T q = 3 ∧ tR T q 0 = some (q + 1) ∧ shRc T (q + 1) 4
def shOp (T : Tl) (a : Nat) : Prop := tK T a = 6 ∧ tR T a 0 = some (a + 1) ∧ tK T (a + 1) = 104 ∧ tL T (a + 1) = 3 ∧ (∀ i, i < 3 → tR T (a + 1) i = some (a + 18 + 5 * i)) ∧ tR T a 1 = some (a + 2) ∧ tR T a 2 = some (a + 5) ∧ tR T a 3 = some (a + 8) ∧ tR T a 4 = some (a + 11) ∧ tR T a 5 = some (a + 14) ∧ shKy T (a + 2) ∧ shKy T (a + 5) ∧ shKy T (a + 8) ∧ shKy T (a + 11) ∧ shRc T (a + 14) 4 ∧ ∀ i, i < 3 → shIn T (a + 18 + 5 * i)
def shSm (T : Tl) : Prop := tK T 10 = 11 ∧ tR T 10 0 = some 11 ∧ tR T 10 1 = some 12 ∧ tR T 10 2 = some 16 ∧ tR T 10 3 = some 17 ∧ tR T 10 4 = some 18 ∧ tK T 11 = 10 ∧ tK T 16 = 105 ∧ tL T 16 = 6 ∧ tK T 17 = 103 ∧ tL T 17 = 45 ∧ tK T 18 = 5 ∧ shRc T 12 64 ∧ (∀ o, o < 6 → tR T 16 o = some (20 + 33 * o)) ∧ (∀ c, c < 45 → tR T 17 c = some (218 + 6 * c)) ∧ (∀ o, o < 6 → shOp T (20 + 33 * o)) ∧ ∀ c, c < 45 → shCh T (218 + 6 * c)
def CfC (I : Iw) (E : Env) : Prop := I 10 5 = nI (eN E) ∧ SeC I (eS E) (eG E) (eC E) ∧ I 11 3 = nI (eR E) ∧ ∀ o, o ≤ eN E + 1 → I (20 + 33 * o) 6 = nI (eK E o) ∧ I (20 + 33 * o) 7 = eA E o ∧ I (20 + 33 * o) 8 = eB E o ∧ I (20 + 33 * o) 9 = nI (eP E o)
def InC (I : Iw) (q : Nat) (D : Dy) (s : Nat) : Prop := Rng I (q + 1) 4 (dL D s) ∧ I q 1 = nI (b01 (dH D s)) ∧ I q 2 = nI (dS D s) ∧ I q 3 = nI (dP D s) ∧ I q 4 = nI (dN D s)
def ChsC (I : Iw) (D : Dy) : Prop := ∀ c, c < 45 → ChC I (218 + 6 * c) (dC D c)
def InsC (I : Iw) (D : Dy) : Prop := ∀ o i, o < 6 → i < 3 → InC I (20 + 33 * o + 18 + 5 * i) D (spt o i)
/-- the first place from j on, d long, where P holds -/
def ff (P : Nat → Bool) : Nat → Nat → Option Nat
  | _, 0 => none
  | j, d + 1 => if P j then some j else ff P (j + 1) d
theorem ff_map (P : Nat → Bool) : ∀ (d j : Nat), ((List.range d).map fun k => j + k).find? P = ff P j d
  | 0, j => rfl
  | d + 1, j => by
    rw [List.range_succ_eq_map, List.map_cons, List.map_map]
    unfold ff
    rw [List.find?_cons, Nat.add_zero]
    cases hP : P j with
    | true => rfl
    | false =>
      simp only [Bool.false_eq_true, if_false]
      rw [← ff_map P d (j + 1)]
      congr 1
      refine List.map_congr_left (fun k _ => ?_)
      simp only [Function.comp]
      omega
theorem ff_range (P : Nat → Bool) (d : Nat) : (List.range d).find? P = ff P 0 d := by
  rw [← ff_map P d 0]
  congr 1
  simp
theorem ff_cg {P Q : Nat → Bool} : ∀ (d j : Nat), (∀ k, j ≤ k → k < j + d → P k = Q k) → ff P j d = ff Q j d
  | 0, j, _ => rfl
  | d + 1, j, h => by
    unfold ff
    rw [h j (by omega) (by omega), ff_cg d (j + 1) (fun k h1 h2 => h k (by omega) (by omega))]
def oI (o : Option Nat) : Int32 := match o with
  | none => m1
  | some k => nI k
theorem mask_shr : ∀ m : Fin 8, ∀ f : Fin 3, (nI m.val >>> (nI f.val &&& nI 31) &&& nI 1) = nI (bit m.val f.val) ∧ (m.val).testBit f.val = decide (bit m.val f.val = 1) := by decide +kernel
theorem fm_nn {a b : Nat} (M : Mem) (h0 : 0 < b) (ha : a < 2 ^ 31) (hb : b < 2 ^ 31) : f_ma_floorMod (nI a) (nI b) M = some (nI (a % b), M) := by
  have h : (0 : Int32) ≤ nI a ^^^ nI b := by
    rw [nn_bt, b_xor, (nn_bt (nI a)).mp (nI_pos' ha), (nn_bt (nI b)).mp (nI_pos' hb)]
    rfl
  unfold f_ma_floorMod
  rw [rmI_t h0 ha hb, if_pos h]
section
variable {T : Tl} {I : Iw} {E : Env} {D : Dy} {o i j : Nat}
theorem sm_opAt (sh : shSm T) (hc : CfC I E) (hn : eN E ≤ 4) (ho : o < 1000) : f_sm_operatorAt 10 (nI o) ((I, T) : Mem) = some (if o ≤ eN E + 1 then some (20 + 33 * o) else none, ((I, T) : Mem)) := by
  unfold shSm at sh
  have h1 := hc.1
  unfold f_sm_operatorAt
  by_cases hz : o ≤ eN E + 1
  · have h2 := sh.2.2.2.2.2.2.2.2.2.2.2.2.2.1 o (by omega)
    simp (disch := omega) only [↓gI_t, ↓pI_t, ↓pZ_t, ↓ck_t, ↓aN_t, ↓cI_s, ↓cV_s, ↓cR_s, ↓onR_s, ↓onR_n, ↓nmI_t, ↓reduceIte, gA_t, aI_t, sI_t, aA_t, aB_t, sB_t, rmI_t, dvI_t, nI_add, pk_mul, pk_sub, nI_leI, nI_ltI, nI_eq, n_leT, n_leF, n_ltT, n_ltF, n_eqT, n_eqF, u2_ne, u2_at, u2_nj, r2_ne, r2_at, ↓i_neg1, m1_ne, m1_en, m1_lt, m1_le, m1_nlt, m1_nle, i_lits, true_and, and_true, sh, h1, h2]
  · simp (disch := omega) only [↓gI_t, ↓pI_t, ↓pZ_t, ↓ck_t, ↓aN_t, ↓cI_s, ↓cV_s, ↓cR_s, ↓onR_s, ↓onR_n, ↓nmI_t, ↓reduceIte, gA_t, aI_t, sI_t, aA_t, aB_t, sB_t, rmI_t, dvI_t, nI_add, pk_mul, pk_sub, nI_leI, nI_ltI, nI_eq, n_leT, n_leF, n_ltT, n_ltF, n_eqT, n_eqF, u2_ne, u2_at, u2_nj, r2_ne, r2_at, ↓i_neg1, m1_ne, m1_en, m1_lt, m1_le, m1_nlt, m1_nle, i_lits, true_and, and_true, sh, h1]
theorem sm_opNeg {x : Int32} (hx : x < nI 0) (M : Mem) : f_sm_operatorAt 10 x M = some (none, M) := by
  unfold f_sm_operatorAt
  exact if_pos hx
theorem sm_sizeOf (sh : shSm T) (hc : CfC I E) (hn : eN E ≤ 4) (ho : o < 1000) : f_sm_sizeOf 10 (nI o) ((I, T) : Mem) = some (nI (if o ≤ eN E + 1 then eP E o else 0), ((I, T) : Mem)) := by
  have e := sm_opAt sh hc hn ho
  unfold f_sm_sizeOf
  by_cases hz : o ≤ eN E + 1
  · have h1 := (hc.2.2.2 o hz).2.2.2
    have h2 := (sh.2.2.2.2.2.2.2.2.2.2.2.2.2.2.2.1 o (by omega)).1
    rw [if_pos hz] at e ⊢
    unfold shSm at sh
    simp (disch := omega) only [↓gI_t, ↓pI_t, ↓pZ_t, ↓ck_t, ↓aN_t, ↓cI_s, ↓cV_s, ↓cR_s, ↓onR_s, ↓onR_n, ↓nmI_t, ↓reduceIte, gA_t, aI_t, sI_t, aA_t, aB_t, sB_t, rmI_t, dvI_t, nI_add, pk_mul, pk_sub, nI_leI, nI_ltI, nI_eq, n_leT, n_leF, n_ltT, n_ltF, n_eqT, n_eqF, u2_ne, u2_at, u2_nj, r2_ne, r2_at, ↓i_neg1, m1_ne, m1_en, m1_lt, m1_le, m1_nlt, m1_nle, i_lits, true_and, and_true, sh, e, h2, h1]
  · rw [if_neg hz] at e ⊢
    unfold shSm at sh
    simp (disch := omega) only [↓gI_t, ↓pI_t, ↓pZ_t, ↓ck_t, ↓aN_t, ↓cI_s, ↓cV_s, ↓cR_s, ↓onR_s, ↓onR_n, ↓nmI_t, ↓reduceIte, gA_t, aI_t, sI_t, aA_t, aB_t, sB_t, rmI_t, dvI_t, nI_add, pk_mul, pk_sub, nI_leI, nI_ltI, nI_eq, n_leT, n_leF, n_ltT, n_ltF, n_eqT, n_eqF, u2_ne, u2_at, u2_nj, r2_ne, r2_at, ↓i_neg1, m1_ne, m1_en, m1_lt, m1_le, m1_nlt, m1_nle, i_lits, true_and, and_true, sh, e]
theorem sm_inAt (sh : shSm T) (hc : CfC I E) (hE : okE E) (ho : o < 1000) (hi : i < 1000) : f_sm_instanceAt 10 (nI o) (nI i) ((I, T) : Mem) = some (if o ≤ eN E + 1 ∧ i < eP E o then some (20 + 33 * o + 18 + 5 * i) else none, ((I, T) : Mem)) := by
  have hn := hE.1
  have e := sm_opAt sh hc hn ho
  unfold f_sm_instanceAt
  by_cases hz : o ≤ eN E + 1
  · have p3 := hE.p3 hz
    have h1 := (hc.2.2.2 o hz).2.2.2
    have h2 := sh.2.2.2.2.2.2.2.2.2.2.2.2.2.2.2.1 o (by omega)
    have h3 := h2.1
    have h4 := h2.2.1
    have h5 := h2.2.2.1
    have h6 := h2.2.2.2.1
    rw [if_pos hz] at e
    unfold shSm at sh
    by_cases hy : i < eP E o
    · have h7 := h2.2.2.2.2.1 i (by omega)
      rw [if_pos ⟨hz, hy⟩]
      simp (disch := omega) only [↓gI_t, ↓pI_t, ↓pZ_t, ↓ck_t, ↓aN_t, ↓cI_s, ↓cV_s, ↓cR_s, ↓onR_s, ↓onR_n, ↓nmI_t, ↓reduceIte, gA_t, aI_t, sI_t, aA_t, aB_t, sB_t, rmI_t, dvI_t, nI_add, pk_mul, pk_sub, nI_leI, nI_ltI, nI_eq, n_leT, n_leF, n_ltT, n_ltF, n_eqT, n_eqF, u2_ne, u2_at, u2_nj, r2_ne, r2_at, ↓i_neg1, m1_ne, m1_en, m1_lt, m1_le, m1_nlt, m1_nle, i_lits, true_and, and_true, sh, e, h3, h1, h4, h5, h6, h7]
    · rw [if_neg (fun w => hy w.2)]
      simp (disch := omega) only [↓gI_t, ↓pI_t, ↓pZ_t, ↓ck_t, ↓aN_t, ↓cI_s, ↓cV_s, ↓cR_s, ↓onR_s, ↓onR_n, ↓nmI_t, ↓reduceIte, gA_t, aI_t, sI_t, aA_t, aB_t, sB_t, rmI_t, dvI_t, nI_add, pk_mul, pk_sub, nI_leI, nI_ltI, nI_eq, n_leT, n_leF, n_ltT, n_ltF, n_eqT, n_eqF, u2_ne, u2_at, u2_nj, r2_ne, r2_at, ↓i_neg1, m1_ne, m1_en, m1_lt, m1_le, m1_nlt, m1_nle, i_lits, true_and, and_true, sh, e, h3, h1]
  · rw [if_neg hz] at e
    rw [if_neg (fun w => hz w.1)]
    unfold shSm at sh
    simp (disch := omega) only [↓gI_t, ↓pI_t, ↓pZ_t, ↓ck_t, ↓aN_t, ↓cI_s, ↓cV_s, ↓cR_s, ↓onR_s, ↓onR_n, ↓nmI_t, ↓reduceIte, gA_t, aI_t, sI_t, aA_t, aB_t, sB_t, rmI_t, dvI_t, nI_add, pk_mul, pk_sub, nI_leI, nI_ltI, nI_eq, n_leT, n_leF, n_ltT, n_ltF, n_eqT, n_eqF, u2_ne, u2_at, u2_nj, r2_ne, r2_at, ↓i_neg1, m1_ne, m1_en, m1_lt, m1_le, m1_nlt, m1_nle, i_lits, true_and, and_true, sh, e]
theorem sm_inNeg (sh : shSm T) (hc : CfC I E) (hn : eN E ≤ 4) (ho : o < 1000) {x : Int32} (hx : x < nI 0) : f_sm_instanceAt 10 (nI o) x ((I, T) : Mem) = some (none, ((I, T) : Mem)) := by
  have e := sm_opAt sh hc hn ho
  unfold f_sm_instanceAt
  by_cases hz : o ≤ eN E + 1
  · rw [if_pos hz] at e
    unfold shSm at sh
    simp only [i_lits]
    simp (disch := omega) only [↓gI_t, ↓pI_t, ↓pZ_t, ↓ck_t, ↓aN_t, ↓cI_s, ↓cV_s, ↓cR_s, ↓onR_s, ↓onR_n, ↓nmI_t, ↓reduceIte, gA_t, aI_t, sI_t, aA_t, aB_t, sB_t, rmI_t, dvI_t, nI_add, pk_mul, pk_sub, nI_leI, nI_ltI, nI_eq, n_leT, n_leF, n_ltT, n_ltF, n_eqT, n_eqF, u2_ne, u2_at, u2_nj, r2_ne, r2_at, ↓i_neg1, m1_ne, m1_en, m1_lt, m1_le, m1_nlt, m1_nle, i_lits, true_and, and_true, sh, e, hx]
  · rw [if_neg hz] at e
    unfold shSm at sh
    simp (disch := omega) only [↓gI_t, ↓pI_t, ↓pZ_t, ↓ck_t, ↓aN_t, ↓cI_s, ↓cV_s, ↓cR_s, ↓onR_s, ↓onR_n, ↓nmI_t, ↓reduceIte, gA_t, aI_t, sI_t, aA_t, aB_t, sB_t, rmI_t, dvI_t, nI_add, pk_mul, pk_sub, nI_leI, nI_ltI, nI_eq, n_leT, n_leF, n_ltT, n_ltF, n_eqT, n_eqF, u2_ne, u2_at, u2_nj, r2_ne, r2_at, ↓i_neg1, m1_ne, m1_en, m1_lt, m1_le, m1_nlt, m1_nle, i_lits, true_and, and_true, sh, e]
theorem sm_chAt (sh : shSm T) (hc : CfC I E) (hE : okE E) (v : vC E o i j) : f_sm_channelAt 10 (nI o) (nI i) (nI j) ((I, T) : Mem) = some (some (218 + 6 * lin o i j), ((I, T) : Mem)) := by
  have hn := hE.1
  have ho := v.1
  have i3 := v.i3 hE
  have j3 := v.j3 hE
  have e1 := sm_opAt (o := o) sh hc hn (by omega)
  have e2 := sm_opAt (o := o + 1) sh hc hn (by omega)
  rw [if_pos (by omega)] at e1
  rw [if_pos (by omega)] at e2
  have h1 := (hc.2.2.2 o (by omega)).2.2.2
  have h2 := (hc.2.2.2 (o + 1) (by omega)).2.2.2
  have k1 := (sh.2.2.2.2.2.2.2.2.2.2.2.2.2.2.2.1 o (by omega)).1
  have k2 := (sh.2.2.2.2.2.2.2.2.2.2.2.2.2.2.2.1 (o + 1) (by omega)).1
  have hx : (o * 3 + i) * 3 + j = lin o i j := by unfold lin; omega
  have hl : lin o i j < 45 := by unfold lin; omega
  have k3 := sh.2.2.2.2.2.2.2.2.2.2.2.2.2.2.1 (lin o i j) hl
  have v1 := v.2.1
  have v2 := v.2.2
  have p3 := hE.p3 (o := o + 1) (by omega)
  have p30 := hE.p3 (o := o) (by omega)
  unfold shSm at sh
  unfold f_sm_channelAt
  simp (disch := omega) only [↓gI_t, ↓pI_t, ↓pZ_t, ↓ck_t, ↓aN_t, ↓cI_s, ↓cV_s, ↓cR_s, ↓onR_s, ↓onR_n, ↓nmI_t, ↓reduceIte, gA_t, aI_t, sI_t, aA_t, aB_t, sB_t, rmI_t, dvI_t, nI_add, pk_mul, pk_sub, nI_leI, nI_ltI, nI_eq, n_leT, n_leF, n_ltT, n_ltF, n_eqT, n_eqF, u2_ne, u2_at, u2_nj, r2_ne, r2_at, ↓i_neg1, m1_ne, m1_en, m1_lt, m1_le, m1_nlt, m1_nle, i_lits, true_and, and_true, sh, e1, e2, k1, k2, h1, h2, hx, k3]
theorem sm_chNo (sh : shSm T) (hc : CfC I E) (hE : okE E) (ho : o < 900) (x y : Int32) (hx : ¬ (o ≤ eN E ∧ (∃ i j, x = nI i ∧ y = nI j ∧ i < eP E o ∧ j < eP E (o + 1)))) : f_sm_channelAt 10 (nI o) x y ((I, T) : Mem) = some (none, ((I, T) : Mem)) := by
  have hn := hE.1
  have e1 := sm_opAt (o := o) sh hc hn (by omega)
  have e2 := sm_opAt (o := o + 1) sh hc hn (by omega)
  have ksm := sh.1
  unfold f_sm_channelAt
  by_cases h0 : o ≤ eN E
  · rw [if_pos (by omega)] at e1
    rw [if_pos (by omega)] at e2
    have h1 := (hc.2.2.2 o (by omega)).2.2.2
    have h2 := (hc.2.2.2 (o + 1) (by omega)).2.2.2
    have k1 := (sh.2.2.2.2.2.2.2.2.2.2.2.2.2.2.2.1 o (by omega)).1
    have k2 := (sh.2.2.2.2.2.2.2.2.2.2.2.2.2.2.2.1 (o + 1) (by omega)).1
    have p3 := hE.p3 (o := o) (by omega)
    have p3' := hE.p3 (o := o + 1) (by omega)
    simp (disch := omega) only [i_lits, ck_t, ksm, e1, nI_add, e2, cR_s, onR_s, gI_t, k1, k2, h1, h2]
    by_cases a1 : x < nI 0
    · rw [if_pos a1]
    · obtain ⟨i, hi, rfl⟩ := nI_of a1
      rw [if_neg a1]
      by_cases a2 : eP E o ≤ i
      · rw [if_pos ((nI_leI (by omega) hi).mpr a2)]
      · rw [if_neg (fun w => a2 ((nI_leI (by omega) hi).mp w))]
        by_cases a3 : y < nI 0
        · rw [if_pos a3]
        · obtain ⟨j, hj, rfl⟩ := nI_of a3
          rw [if_neg a3]
          by_cases a4 : j < eP E (o + 1)
          · exact absurd ⟨h0, i, j, rfl, rfl, by omega, a4⟩ hx
          · rw [if_neg (fun w => a4 ((nI_ltI hj (by omega)).mp w))]
  · rw [if_neg (by omega)] at e2
    by_cases h3 : o ≤ eN E + 1
    · rw [if_pos h3] at e1
      simp (disch := omega) only [i_lits, ck_t, ksm, e1, nI_add, e2, cR_s, onR_s, onR_n]
    · rw [if_neg h3] at e1
      simp (disch := omega) only [i_lits, ck_t, ksm, e1, nI_add, e2, cR_s, onR_s, onR_n]
theorem op_isKeyed {a kind : Nat} (hk : tK T a = 6) (h : I a 6 = nI kind) (h8 : kind ≤ 8) : f_op_isKeyed a ((I, T) : Mem) = some (nI (b01 (kyd kind)), ((I, T) : Mem)) := by
  unfold f_op_isKeyed
  rcases (by omega : kind = 0 ∨ kind = 1 ∨ kind = 2 ∨ kind = 3 ∨ kind = 4 ∨ kind = 5 ∨ kind = 6 ∨ kind = 7 ∨ kind = 8) with rfl | rfl | rfl | rfl | rfl | rfl | rfl | rfl | rfl <;> (simp (disch := omega) only [↓gI_t, ↓pI_t, ↓pZ_t, ↓ck_t, ↓aN_t, ↓cI_s, ↓cV_s, ↓cR_s, ↓onR_s, ↓onR_n, ↓nmI_t, ↓reduceIte, gA_t, aI_t, sI_t, aA_t, aB_t, sB_t, rmI_t, dvI_t, nI_add, pk_mul, pk_sub, nI_leI, nI_ltI, nI_eq, n_leT, n_leF, n_ltT, n_ltF, n_eqT, n_eqF, u2_ne, u2_at, u2_nj, r2_ne, r2_at, ↓i_neg1, m1_ne, m1_en, m1_lt, m1_le, m1_nlt, m1_nle, i_lits, true_and, and_true, hk, h]; rfl)
theorem op_owner {a p : Nat} (M : Mem) (k : Fin 16) (hp : p ≤ 3) : f_op_ownerOf a (kv k) (nI p) M = some (nI (home p k), M) := by
  have hk := k.isLt
  have e : nI k.val &&& nI 7 = nI (k.val % 8) := pk_andN (by omega) 3 (by decide)
  have h7 : k.val % 8 < 8 := Nat.mod_lt _ (by omega)
  have hm : k.val % 8 * p ≤ 7 * 3 := Nat.mul_le_mul (by omega) hp
  unfold f_op_ownerOf kv home
  simp only [i_lits, e, pk_mul]
  rw [dvI_t (by omega) (by omega) (by omega)]
theorem sm_target (sh : shSm T) (hc : CfC I E) (hE : okE E) (hi : InC I (20 + 33 * o + 18 + 5 * i) D (spt o i)) (ho : o ≤ eN E) (i3 : i < 3) {r : Rec} {l : List Rec} (hl : dL D (spt o i) = r :: l) (hN : dN D (spt o i) < 2 ^ 31) : f_sm_targetOf 10 (nI o) (20 + 33 * o + 18 + 5 * i) ((I, T) : Mem) = some (nI (goal E D o i r.1), ((I, T) : Mem)) := by
  have hn := hE.1
  have e2 := sm_opAt (o := o + 1) sh hc hn (by omega)
  rw [if_pos (by omega)] at e2
  obtain ⟨c1, c2, c3, c4⟩ := hc.2.2.2 (o + 1) (by omega)
  have k2 := (sh.2.2.2.2.2.2.2.2.2.2.2.2.2.2.2.1 (o + 1) (by omega)).1
  have kin := (sh.2.2.2.2.2.2.2.2.2.2.2.2.2.2.2.1 o (by omega)).2.2.2.2.2.2.2.2.2.2.2.2.2.2.2 i i3
  have p1 := hE.p1 (o := o + 1) (by omega)
  have p3 := hE.p3 (o := o + 1) (by omega)
  have hkd : eK E (o + 1) ≤ 8 := by
    by_cases hz : o = eN E
    · rw [hz, hE.2.2.2.2.1]; omega
    · have := hE.2.2.2.2.2.1 (o + 1) (by omega) (by omega); omega
  have hky := op_isKeyed (T := T) k2 c1 hkd
  obtain ⟨i1, i2, i4, i5, i6⟩ := hi
  rw [hl] at i1
  have hsz := i1.2.2.1
  rw [List.length_cons] at hsz
  have hle := i1.1
  rw [List.length_cons] at hle
  obtain ⟨ra, -, -⟩ := rc_at0 m3_4 kin.2.2 i1
  have ksm := sh.1
  have krc := kin.2.2.1
  have kin1 := kin.1
  have kin2 := kin.2.1
  have ow := fun M => op_owner (a := 20 + 33 * (o + 1)) M r.1 p3
  unfold f_sm_targetOf goal
  cases hky2 : kyd (eK E (o + 1)) with
  | true =>
    rw [hky2] at hky
    simp (disch := omega) only [↓gI_t, ↓pI_t, ↓pZ_t, ↓ck_t, ↓aN_t, ↓cI_s, ↓cV_s, ↓cR_s, ↓onR_s, ↓onR_n, ↓nmI_t, ↓reduceIte, gA_t, aI_t, sI_t, aA_t, aB_t, sB_t, rmI_t, dvI_t, nI_add, pk_mul, pk_sub, nI_leI, nI_ltI, nI_eq, n_leT, n_leF, n_ltT, n_ltF, n_eqT, n_eqF, u2_ne, u2_at, u2_nj, r2_ne, r2_at, ↓i_neg1, m1_ne, m1_en, m1_lt, m1_le, m1_nlt, m1_nle, i_lits, true_and, and_true, ksm, e2, k2, c4, kin1, kin2, krc, hsz, hky, b01, ra, ow]
  | false =>
    rw [hky2] at hky
    simp (disch := omega) only [↓gI_t, ↓pI_t, ↓pZ_t, ↓ck_t, ↓aN_t, ↓cI_s, ↓cV_s, ↓cR_s, ↓onR_s, ↓onR_n, ↓nmI_t, ↓reduceIte, gA_t, aI_t, sI_t, aA_t, aB_t, sB_t, rmI_t, dvI_t, nI_add, pk_mul, pk_sub, nI_leI, nI_ltI, nI_eq, n_leT, n_leF, n_ltT, n_ltF, n_eqT, n_eqF, u2_ne, u2_at, u2_nj, r2_ne, r2_at, ↓i_neg1, m1_ne, m1_en, m1_lt, m1_le, m1_nlt, m1_nle, i_lits, true_and, and_true, ksm, e2, k2, c4, kin1, kin2, krc, hsz, hky, b01, Bool.false_eq_true, i6, fm_nn]
theorem sm_targetNil (sh : shSm T) (hc : CfC I E) (hE : okE E) (hi : InC I (20 + 33 * o + 18 + 5 * i) D (spt o i)) (ho : o ≤ eN E + 1) (i3 : i < 3) (hl : dL D (spt o i) = []) : f_sm_targetOf 10 (nI o) (20 + 33 * o + 18 + 5 * i) ((I, T) : Mem) = some (m1, ((I, T) : Mem)) := by
  have hn := hE.1
  have e2 := sm_opAt (o := o + 1) sh hc hn (by omega)
  have kin := (sh.2.2.2.2.2.2.2.2.2.2.2.2.2.2.2.1 o (by omega)).2.2.2.2.2.2.2.2.2.2.2.2.2.2.2 i i3
  have hsz := hi.1.2.2.1
  rw [hl, List.length_nil] at hsz
  have ksm := sh.1
  have krc := kin.2.2.1
  have kin1 := kin.1
  have kin2 := kin.2.1
  unfold f_sm_targetOf
  by_cases hz : o ≤ eN E
  · rw [if_pos (by omega)] at e2
    have p1 := hE.p1 (o := o + 1) (by omega)
    have p3 := hE.p3 (o := o + 1) (by omega)
    obtain ⟨c1, c2, c3, c4⟩ := hc.2.2.2 (o + 1) (by omega)
    have k2 := (sh.2.2.2.2.2.2.2.2.2.2.2.2.2.2.2.1 (o + 1) (by omega)).1
    simp (disch := omega) only [↓gI_t, ↓pI_t, ↓pZ_t, ↓ck_t, ↓aN_t, ↓cI_s, ↓cV_s, ↓cR_s, ↓onR_s, ↓onR_n, ↓nmI_t, ↓reduceIte, gA_t, aI_t, sI_t, aA_t, aB_t, sB_t, rmI_t, dvI_t, nI_add, pk_mul, pk_sub, nI_leI, nI_ltI, nI_eq, n_leT, n_leF, n_ltT, n_ltF, n_eqT, n_eqF, u2_ne, u2_at, u2_nj, r2_ne, r2_at, ↓i_neg1, m1_ne, m1_en, m1_lt, m1_le, m1_nlt, m1_nle, i_lits, true_and, and_true, ksm, e2, k2, c4, kin1, kin2, krc, hsz]
  · rw [if_neg (by omega)] at e2
    simp (disch := omega) only [↓gI_t, ↓pI_t, ↓pZ_t, ↓ck_t, ↓aN_t, ↓cI_s, ↓cV_s, ↓cR_s, ↓onR_s, ↓onR_n, ↓nmI_t, ↓reduceIte, gA_t, aI_t, sI_t, aA_t, aB_t, sB_t, rmI_t, dvI_t, nI_add, pk_mul, pk_sub, nI_leI, nI_ltI, nI_eq, n_leT, n_leF, n_ltT, n_ltF, n_eqT, n_eqF, u2_ne, u2_at, u2_nj, r2_ne, r2_at, ↓i_neg1, m1_ne, m1_en, m1_lt, m1_le, m1_nlt, m1_nle, i_lits, true_and, and_true, ksm, e2]
theorem refus_loop (sh : shSm T) (hc : CfC I E) (hE : okE E) (hC : ChsC I D) (hI : InvC E D) (ho : o ≤ eN E) (hi : i < eP E o) : ∀ (d n j : Nat), j + d = eP E (o + 1) → d < n → f_sm_targetWithoutRoom_2 n 10 (nI o) (nI i) (nI j) ((I, T) : Mem) = some (oI (ff (fun j => !tkB (eC E) (dC D (lin o i j))) j d), ((I, T) : Mem))
  | d, 0, j, _, hn => by omega
  | 0, n + 1, j, hj, hn => by
    have p3 := hE.p3 (o := o + 1) (by omega)
    have e := sm_sizeOf (o := o + 1) sh hc hE.1 (by have := hE.1; omega)
    rw [if_pos (by omega)] at e
    have ksm := sh.1
    unfold f_sm_targetWithoutRoom_2 ff
    simp (disch := omega) only [↓gI_t, ↓pI_t, ↓pZ_t, ↓ck_t, ↓aN_t, ↓cI_s, ↓cV_s, ↓cR_s, ↓onR_s, ↓onR_n, ↓nmI_t, ↓reduceIte, gA_t, aI_t, sI_t, aA_t, aB_t, sB_t, rmI_t, dvI_t, nI_add, pk_mul, pk_sub, nI_leI, nI_ltI, nI_eq, n_leT, n_leF, n_ltT, n_ltF, n_eqT, n_eqF, u2_ne, u2_at, u2_nj, r2_ne, r2_at, ↓i_neg1, m1_ne, m1_en, m1_lt, m1_le, m1_nlt, m1_nle, i_lits, true_and, and_true, ksm, e]
    rfl
  | d + 1, n + 1, j, hj, hn => by
    have p3 := hE.p3 (o := o + 1) (by omega)
    have v : vC E o i j := ⟨ho, hi, by omega⟩
    have hl : lin o i j < 45 := by have := v.i3 hE; have := v.j3 hE; have := hE.1; unfold lin; omega
    have e := sm_sizeOf (o := o + 1) sh hc hE.1 (by have := hE.1; omega)
    rw [if_pos (by omega)] at e
    have e2 := sm_chAt sh hc hE v
    have kch := sh.2.2.2.2.2.2.2.2.2.2.2.2.2.2.2.2 _ hl
    have e3 := ch_takesBarrier (T := T) kch hc.2.1 (hC _ hl) hE.2.2.2.2.2.2.2.1.2 hE.2.2.2.2.2.2.2.2.2.1.2 (hI _ _ _ v).1
    have ih := refus_loop sh hc hE hC hI ho hi d n (j + 1) (by omega) (by omega)
    have ksm := sh.1
    have kch1 := kch.1
    unfold f_sm_targetWithoutRoom_2 f_sm_targetWithoutRoom_37 ff
    cases ht : tkB (eC E) (dC D (lin o i j)) with
    | true =>
      rw [ht] at e3
      simp (disch := omega) only [↓gI_t, ↓pI_t, ↓pZ_t, ↓ck_t, ↓aN_t, ↓cI_s, ↓cV_s, ↓cR_s, ↓onR_s, ↓onR_n, ↓nmI_t, ↓reduceIte, gA_t, aI_t, sI_t, aA_t, aB_t, sB_t, rmI_t, dvI_t, nI_add, pk_mul, pk_sub, nI_leI, nI_ltI, nI_eq, n_leT, n_leF, n_ltT, n_ltF, n_eqT, n_eqF, u2_ne, u2_at, u2_nj, r2_ne, r2_at, ↓i_neg1, m1_ne, m1_en, m1_lt, m1_le, m1_nlt, m1_nle, i_lits, true_and, and_true, ksm, e, e2, kch1, e3, b01, ih, Bool.not_true, Bool.false_eq_true]
    | false =>
      rw [ht] at e3
      simp (disch := omega) only [↓gI_t, ↓pI_t, ↓pZ_t, ↓ck_t, ↓aN_t, ↓cI_s, ↓cV_s, ↓cR_s, ↓onR_s, ↓onR_n, ↓nmI_t, ↓reduceIte, gA_t, aI_t, sI_t, aA_t, aB_t, sB_t, rmI_t, dvI_t, nI_add, pk_mul, pk_sub, nI_leI, nI_ltI, nI_eq, n_leT, n_leF, n_ltT, n_ltF, n_eqT, n_eqF, u2_ne, u2_at, u2_nj, r2_ne, r2_at, ↓i_neg1, m1_ne, m1_en, m1_lt, m1_le, m1_nlt, m1_nle, i_lits, true_and, and_true, ksm, e, e2, kch1, e3, b01, Bool.not_false, Bool.false_eq_true]
      rfl
theorem sm_refus (sh : shSm T) (hc : CfC I E) (hE : okE E) (hC : ChsC I D) (hI : InvC E D) (ho : o ≤ eN E) (hi : i < eP E o) : f_sm_targetWithoutRoom 10 (nI o) (nI i) ((I, T) : Mem) = some (oI (refus E D o i), ((I, T) : Mem)) := by
  unfold f_sm_targetWithoutRoom refus
  rw [ff_range]
  have := refus_loop sh hc hE hC hI ho hi (eP E (o + 1)) FU 0 (by omega) (by have := hE.p3 (o := o + 1) (by omega); unfold FU; omega)
  simp only [i_lits]
  exact this
theorem ready_eq : ready E D o i = (ff (fun k => !(dS D (spt o i)).testBit ((dP D (spt o i) + k) % eP E (o - 1)) && !(dC D (lin (o - 1) ((dP D (spt o i) + k) % eP E (o - 1)) i)).1.isEmpty) 0 (eP E (o - 1))).map fun k => (dP D (spt o i) + k) % eP E (o - 1) := by
  unfold ready
  rw [List.find?_map, ff_range]
  rfl
theorem ready_loop (sh : shSm T) (hc : CfC I E) (hE : okE E) (hC : ChsC I D) (hI : Inv E D) (h1o : 1 ≤ o) (hs : vS E o i) (hin : InC I (20 + 33 * o + 18 + 5 * i) D (spt o i)) (hP : dP D (spt o i) < 3) : ∀ (d n k : Nat), k + d = eP E (o - 1) → d < n → f_sm_inputToTake_30 n 10 (nI o) (nI i) (20 + 33 * o + 18 + 5 * i) (nI (eP E (o - 1))) (nI k) ((I, T) : Mem) = some (oI ((ff (fun k => !(dS D (spt o i)).testBit ((dP D (spt o i) + k) % eP E (o - 1)) && !(dC D (lin (o - 1) ((dP D (spt o i) + k) % eP E (o - 1)) i)).1.isEmpty) k d).map fun k => (dP D (spt o i) + k) % eP E (o - 1)), ((I, T) : Mem))
  | d, 0, k, _, hn => by omega
  | 0, n + 1, k, hk, hn => by
    have p3 := hE.p3 (o := o - 1) (by have := hs.1; omega)
    unfold f_sm_inputToTake_30 ff
    simp (disch := omega) only [↓gI_t, ↓pI_t, ↓pZ_t, ↓ck_t, ↓aN_t, ↓cI_s, ↓cV_s, ↓cR_s, ↓onR_s, ↓onR_n, ↓nmI_t, ↓reduceIte, gA_t, aI_t, sI_t, aA_t, aB_t, sB_t, rmI_t, dvI_t, nI_add, pk_mul, pk_sub, nI_leI, nI_ltI, nI_eq, n_leT, n_leF, n_ltT, n_ltF, n_eqT, n_eqF, u2_ne, u2_at, u2_nj, r2_ne, r2_at, ↓i_neg1, m1_ne, m1_en, m1_lt, m1_le, m1_nlt, m1_nle, i_lits, true_and, and_true]
    rfl
  | d + 1, n + 1, k, hk, hn => by
    have hn4 := hE.1
    have ho := hs.1
    have p1 := hE.p1 (o := o - 1) (by omega)
    have p3 := hE.p3 (o := o - 1) (by omega)
    have i3 := hs.i3 hE
    have ih := ready_loop sh hc hE hC hI h1o hs hin hP d n (k + 1) (by omega) (by omega)
    have hm := (hI.2.2.1 o i hs).2.2 h1o
    have h28 : (2 : Nat) ^ eP E (o - 1) ≤ 2 ^ 3 := Nat.pow_le_pow_right (by omega) p3
    unfold f_sm_inputToTake_30 ff
    have e1 := fm_nn (a := dP D (spt o i) + k) (b := eP E (o - 1)) ((I, T) : Mem) (by omega) (by omega) (by omega)
    have hlt : (dP D (spt o i) + k) % eP E (o - 1) < eP E (o - 1) := Nat.mod_lt _ (by omega)
    obtain ⟨f, hf⟩ : ∃ f, f = (dP D (spt o i) + k) % eP E (o - 1) := ⟨_, rfl⟩
    simp only [← hf] at e1 hlt ⊢
    have v : vC E (o - 1) f i := ⟨by omega, hlt, by rw [show o - 1 + 1 = o by omega]; exact hs.2⟩
    have hl : lin (o - 1) f i < 45 := by unfold lin; omega
    have e2 := sm_chAt sh hc hE v
    have kch := sh.2.2.2.2.2.2.2.2.2.2.2.2.2.2.2.2 _ hl
    have hq4 := (hI.1 _ _ _ v).1.1
    have c4 := hE.2.2.2.2.2.2.2.2.2.1.2
    have e3 := ch_hasItem (T := T) kch (hC _ hl) (by omega)
    obtain ⟨m1, m2⟩ := mask_shr ⟨dS D (spt o i), by omega⟩ ⟨f, by omega⟩
    simp only at m1 m2
    have hb := bit_lt (m := dS D (spt o i)) (f := f)
    have ksm := sh.1
    have kin := ((sh.2.2.2.2.2.2.2.2.2.2.2.2.2.2.2.1 o (by omega)).2.2.2.2.2.2.2.2.2.2.2.2.2.2.2 i i3).1
    have kch1 := kch.1
    obtain ⟨i1, i2, i4, i5, i6⟩ := hin
    rw [m2]
    by_cases hz : bit (dS D (spt o i)) f = 0
    · cases hq : (dC D (lin (o - 1) f i)).1.isEmpty with
      | true =>
        rw [hq] at e3
        simp (disch := omega) only [↓gI_t, ↓pI_t, ↓pZ_t, ↓ck_t, ↓aN_t, ↓cI_s, ↓cV_s, ↓cR_s, ↓onR_s, ↓onR_n, ↓nmI_t, ↓reduceIte, gA_t, aI_t, sI_t, aA_t, aB_t, sB_t, rmI_t, dvI_t, nI_add, pk_mul, pk_sub, nI_leI, nI_ltI, nI_eq, n_leT, n_leF, n_ltT, n_ltF, n_eqT, n_eqF, u2_ne, u2_at, u2_nj, r2_ne, r2_at, ↓i_neg1, m1_ne, m1_en, m1_lt, m1_le, m1_nlt, m1_nle, i_lits, true_and, and_true, kin, i5, e1, ksm, e2, i4, m1, hz, f_sm_inputToTake_80, f_sm_inputToTake_103, kch1, e3, b01, Bool.not_true, Bool.false_eq_true, ih, Bool.and_false]
      | false =>
        rw [hq] at e3
        simp (disch := omega) only [↓gI_t, ↓pI_t, ↓pZ_t, ↓ck_t, ↓aN_t, ↓cI_s, ↓cV_s, ↓cR_s, ↓onR_s, ↓onR_n, ↓nmI_t, ↓reduceIte, gA_t, aI_t, sI_t, aA_t, aB_t, sB_t, rmI_t, dvI_t, nI_add, pk_mul, pk_sub, nI_leI, nI_ltI, nI_eq, n_leT, n_leF, n_ltT, n_ltF, n_eqT, n_eqF, u2_ne, u2_at, u2_nj, r2_ne, r2_at, ↓i_neg1, m1_ne, m1_en, m1_lt, m1_le, m1_nlt, m1_nle, i_lits, true_and, and_true, kin, i5, e1, ksm, e2, i4, m1, hz, f_sm_inputToTake_80, f_sm_inputToTake_103, kch1, e3, b01, Bool.not_false, Bool.and_true, Nat.zero_ne_one, decide_false]
        simp only [Option.map_some, ← hf]
        rfl
    · have hz1 : bit (dS D (spt o i)) f = 1 := by omega
      simp (disch := omega) only [↓gI_t, ↓pI_t, ↓pZ_t, ↓ck_t, ↓aN_t, ↓cI_s, ↓cV_s, ↓cR_s, ↓onR_s, ↓onR_n, ↓nmI_t, ↓reduceIte, gA_t, aI_t, sI_t, aA_t, aB_t, sB_t, rmI_t, dvI_t, nI_add, pk_mul, pk_sub, nI_leI, nI_ltI, nI_eq, n_leT, n_leF, n_ltT, n_ltF, n_eqT, n_eqF, u2_ne, u2_at, u2_nj, r2_ne, r2_at, ↓i_neg1, m1_ne, m1_en, m1_lt, m1_le, m1_nlt, m1_nle, i_lits, true_and, and_true, kin, i5, e1, ksm, e2, i4, m1, hz1, f_sm_inputToTake_80, f_sm_inputToTake_103, decide_true, Bool.not_true, Bool.false_and, Bool.false_eq_true, ih]
theorem sm_ready (sh : shSm T) (hc : CfC I E) (hE : okE E) (hC : ChsC I D) (hI : Inv E D) (h1o : 1 ≤ o) (hs : vS E o i) (hin : InC I (20 + 33 * o + 18 + 5 * i) D (spt o i)) (hP : dP D (spt o i) < 3) : f_sm_inputToTake 10 (nI o) (nI i) ((I, T) : Mem) = some (oI (ready E D o i), ((I, T) : Mem)) := by
  have hn4 := hE.1
  have ho := hs.1
  have i3 := hs.i3 hE
  have p1 := hE.p1 (o := o - 1) (by omega)
  have p3 := hE.p3 (o := o - 1) (by omega)
  have e1 := sm_inAt (o := o) (i := i) sh hc hE (by omega) (by omega)
  rw [if_pos ⟨ho, hs.2⟩] at e1
  have e2 := sm_sizeOf (o := o - 1) sh hc hn4 (by omega)
  rw [if_pos (by omega)] at e2
  have e3 := ready_loop sh hc hE hC hI h1o hs hin hP (eP E (o - 1)) FU 0 (by omega) (by unfold FU; omega)
  rw [ready_eq]
  have ksm := sh.1
  unfold f_sm_inputToTake
  simp (disch := omega) only [↓gI_t, ↓pI_t, ↓pZ_t, ↓ck_t, ↓aN_t, ↓cI_s, ↓cV_s, ↓cR_s, ↓onR_s, ↓onR_n, ↓nmI_t, ↓reduceIte, gA_t, aI_t, sI_t, aA_t, aB_t, sB_t, rmI_t, dvI_t, nI_add, pk_mul, pk_sub, nI_leI, nI_ltI, nI_eq, n_leT, n_leF, n_ltT, n_ltF, n_eqT, n_eqF, u2_ne, u2_at, u2_nj, r2_ne, r2_at, ↓i_neg1, m1_ne, m1_en, m1_lt, m1_le, m1_nlt, m1_nle, i_lits, true_and, and_true, ksm, e1, e2, e3]
end
