/-! THE CLASS: states by key; what a record leads to. bt, b_ext .. b_sshr are the kit's rows to paste -/
def bt (x : Int32) (i : Nat) : Bool := x.toBitVec.getLsbD i
theorem b_ext {x y : Int32} (h : ∀ i, i < 32 → bt x i = bt y i) : x = y := Int32.toBitVec_inj.mp (BitVec.eq_of_getLsbD_eq (fun i hi => h i hi))
theorem b_or (x y : Int32) (i : Nat) : bt (x ||| y) i = (bt x i || bt y i) := by unfold bt; rw [Int32.toBitVec_or, BitVec.getLsbD_or]
theorem b_and (x y : Int32) (i : Nat) : bt (x &&& y) i = (bt x i && bt y i) := by unfold bt; rw [Int32.toBitVec_and, BitVec.getLsbD_and]
theorem b_xor (x y : Int32) (i : Nat) : bt (x ^^^ y) i = (bt x i ^^ bt y i) := by unfold bt; rw [Int32.toBitVec_xor, BitVec.getLsbD_xor]
theorem b_m1 : ∀ i, i < 32 → bt m1 i = true := by decide +kernel
theorem b_0 (i : Nat) : bt 0 i = false := BitVec.getLsbD_zero
theorem b_1 : ∀ i, i < 32 → bt 1 i = decide (i = 0) := by decide +kernel
theorem s_l : ∀ n, n < 32 → ((nI n &&& 31).toBitVec.smod 32).toNat = n := by decide +kernel
theorem b_sshr (n : Nat) (hn : n < 32) (x : Int32) {i : Nat} (hi : i < 32) : bt (x >>> (nI n &&& 31)) i = if n + i < 32 then bt x (n + i) else bt x 31 := by
  unfold bt
  rw [Int32.toBitVec_shiftRight]
  show (x.toBitVec.sshiftRight ((nI n &&& 31).toBitVec.smod 32).toNat).getLsbD i = _
  rw [s_l n hn, BitVec.getLsbD_sshiftRight, BitVec.msb_eq_getLsbD_last]
  simp [hi]
theorem b_one : ∀ k : Fin 16, ∀ i : Fin 16, bt (nI 1 <<< nI k.val) i.val = decide (i = k) := by decide +kernel
theorem b_has {k : Nat} (hk : k < 16) (x : Int32) : (x >>> nI k &&& nI 1 = nI 0) ↔ bt x k = false := by
  have e : nI k = nI k &&& 31 := by
    have := msk31 (a := k) (by omega)
    rw [Nat.mod_eq_of_lt (by omega)] at this
    exact this.symm
  constructor
  · intro h
    have h0 : bt (x >>> nI k &&& nI 1) 0 = bt (nI 0) 0 := by rw [h]
    rw [b_and, e, b_sshr k (by omega) x (by omega)] at h0
    have h1 : bt (nI 1) 0 = true := by decide
    have h2 : bt (nI 0) 0 = false := by decide
    rw [h1, h2, if_pos (by omega)] at h0
    simpa using h0
  · intro h
    refine b_ext (fun i hi => ?_)
    have h2 : bt (nI 0) i = false := b_0 i
    rw [b_and, e, b_sshr k (by omega) x hi, h2, show bt (nI 1) i = decide (i = 0) from b_1 i hi]
    by_cases hz : i = 0
    · subst hz
      rw [if_pos (by omega)]
      simp [h]
    · simp [hz]
theorem r2_self {I : Iw} {a : Nat} : r2 I a (I a) = I := by
  funext x y
  by_cases hz : x = a
  · subst hz; simp [r2]
  · simp [r2, hz]
theorem r2_over {I : Iw} {a i : Nat} {v : Int32} {g : Nat → Int32} : r2 (u2 I a i v) a g = r2 I a g := by
  funext x y
  by_cases hz : x = a
  · subst hz; simp [r2]
  · simp [r2, hz, u2]
def fst0 (o : Option (Int32 × Int32)) : Int32 := (o.map (fun x => x.1)).getD 0
def snd0 (o : Option (Int32 × Int32)) : Int32 := (o.map (fun x => x.2)).getD 0
def shKy (T : Tl) (a : Nat) : Prop := tK T a = 4 ∧ tR T a 0 = some (a + 1) ∧ tR T a 1 = some (a + 2) ∧ tK T (a + 1) = 100 ∧ tK T (a + 2) = 100 ∧ tL T (a + 1) = 16 ∧ tL T (a + 2) = 16
def KyC (I : Iw) (a : Nat) (f : Kst) : Prop := ∀ k : Fin 16, bt (I a 2) k.val = (f k).isSome ∧ I (a + 1) k.val = fst0 (f k) ∧ I (a + 2) k.val = snd0 (f k)
section
variable {T : Tl} {I : Iw} {a : Nat} {f : Kst}
theorem KyC_cg {I' : Iw} (h : KyC I a f) (g : ∀ x, a ≤ x → x < a + 3 → I' x = I x) : KyC I' a f := fun k => by
  rw [g a (by omega) (by omega), g (a + 1) (by omega) (by omega), g (a + 2) (by omega) (by omega)]
  exact h k
theorem ky_at (sh : shKy T a) (h : KyC I a f) (k : Fin 16) : f_ky_has a (kv k) ((I, T) : Mem) = some (nI (b01 (f k).isSome), ((I, T) : Mem)) ∧ f_ky_firstOf a (kv k) ((I, T) : Mem) = some (fst0 (f k), ((I, T) : Mem)) ∧ f_ky_secondOf a (kv k) ((I, T) : Mem) = some (snd0 (f k), ((I, T) : Mem)) := by
  obtain ⟨h1, h2, h3⟩ := h k
  have hk := k.isLt
  unfold shKy at sh
  have e : nI k.val &&& nI 15 = nI k.val := by rw [msk15 (by omega), Nat.mod_eq_of_lt (by omega)]
  have e2 : nI k.val &&& nI 31 = nI k.val := by rw [msk31 (by omega), Nat.mod_eq_of_lt (by omega)]
  refine ⟨?_, ?_, ?_⟩
  · unfold f_ky_has kv
    simp (disch := omega) only [↓gI_t, ↓pI_t, ↓pZ_t, ↓ck_t, ↓aN_t, ↓cI_s, ↓cV_s, ↓cR_s, ↓onR_s, ↓onR_n, ↓nmI_t, ↓reduceIte, gA_t, aI_t, sI_t, aA_t, aB_t, sB_t, rmI_t, dvI_t, nI_add, pk_mul, pk_sub, nI_leI, nI_ltI, nI_eq, n_leT, n_leF, n_ltT, n_ltF, n_eqT, n_eqF, u2_ne, u2_at, u2_nj, r2_ne, r2_at, ↓i_neg1, m1_ne, m1_en, m1_lt, m1_le, m1_nlt, m1_nle, i_lits, true_and, and_true, sh, e, e2]
    by_cases hz : bt (I a 2) k.val = true
    · rw [if_neg (by rw [b_has hk, hz]; simp), ← h1, hz]
      rfl
    · have hz' : bt (I a 2) k.val = false := by simpa using hz
      rw [if_pos ((b_has hk _).mpr hz'), ← h1, hz']
      rfl
  · unfold f_ky_firstOf kv
    simp (disch := omega) only [↓gI_t, ↓pI_t, ↓pZ_t, ↓ck_t, ↓aN_t, ↓cI_s, ↓cV_s, ↓cR_s, ↓onR_s, ↓onR_n, ↓nmI_t, ↓reduceIte, gA_t, aI_t, sI_t, aA_t, aB_t, sB_t, rmI_t, dvI_t, nI_add, pk_mul, pk_sub, nI_leI, nI_ltI, nI_eq, n_leT, n_leF, n_ltT, n_ltF, n_eqT, n_eqF, u2_ne, u2_at, u2_nj, r2_ne, r2_at, ↓i_neg1, m1_ne, m1_en, m1_lt, m1_le, m1_nlt, m1_nle, i_lits, true_and, and_true, sh, e, h2]
  · unfold f_ky_secondOf kv
    simp (disch := omega) only [↓gI_t, ↓pI_t, ↓pZ_t, ↓ck_t, ↓aN_t, ↓cI_s, ↓cV_s, ↓cR_s, ↓onR_s, ↓onR_n, ↓nmI_t, ↓reduceIte, gA_t, aI_t, sI_t, aA_t, aB_t, sB_t, rmI_t, dvI_t, nI_add, pk_mul, pk_sub, nI_leI, nI_ltI, nI_eq, n_leT, n_leF, n_ltT, n_ltF, n_eqT, n_eqF, u2_ne, u2_at, u2_nj, r2_ne, r2_at, ↓i_neg1, m1_ne, m1_en, m1_lt, m1_le, m1_nlt, m1_nle, i_lits, true_and, and_true, sh, e, h3]
theorem ky_put (sh : shKy T a) (h : KyC I a f) (k : Fin 16) (x y : Int32) : ∃ I', f_ky_put a (kv k) x y ((I, T) : Mem) = some ((I', T) : Mem) ∧ Frm a 3 I I' ∧ KyC I' a (fun k' => if k' = k then some (x, y) else f k') := by
  have hk := k.isLt
  unfold shKy at sh
  have e : nI k.val &&& nI 15 = nI k.val := by rw [msk15 (by omega), Nat.mod_eq_of_lt (by omega)]
  have e2 : nI k.val &&& nI 31 = nI k.val := by rw [msk31 (by omega), Nat.mod_eq_of_lt (by omega)]
  refine ⟨u2 (u2 (u2 I (a + 1) k.val x) (a + 2) k.val y) a 2 (I a 2 ||| nI 1 <<< nI k.val), ?_, ?_, ?_⟩
  · unfold f_ky_put kv
    simp (disch := omega) only [↓gI_t, ↓pI_t, ↓pZ_t, ↓ck_t, ↓aN_t, ↓cI_s, ↓cV_s, ↓cR_s, ↓onR_s, ↓onR_n, ↓nmI_t, ↓reduceIte, gA_t, aI_t, sI_t, aA_t, aB_t, sB_t, rmI_t, dvI_t, nI_add, pk_mul, pk_sub, nI_leI, nI_ltI, nI_eq, n_leT, n_leF, n_ltT, n_ltF, n_eqT, n_eqF, u2_ne, u2_at, u2_nj, r2_ne, r2_at, ↓i_neg1, m1_ne, m1_en, m1_lt, m1_le, m1_nlt, m1_nle, i_lits, true_and, and_true, sh, e, e2]
  · exact Frm_u2 (Frm_u2 (Frm_u2 Frm_rf (by omega) (by omega)) (by omega) (by omega)) (by omega) (by omega)
  · intro k'
    obtain ⟨h1, h2, h3⟩ := h k'
    by_cases hz : k' = k
    · subst hz
      simp only [↓reduceIte]
      refine ⟨?_, ?_, ?_⟩
      · simp (disch := omega) only [↓gI_t, ↓pI_t, ↓pZ_t, ↓ck_t, ↓aN_t, ↓cI_s, ↓cV_s, ↓cR_s, ↓onR_s, ↓onR_n, ↓nmI_t, ↓reduceIte, gA_t, aI_t, sI_t, aA_t, aB_t, sB_t, rmI_t, dvI_t, nI_add, pk_mul, pk_sub, nI_leI, nI_ltI, nI_eq, n_leT, n_leF, n_ltT, n_ltF, n_eqT, n_eqF, u2_ne, u2_at, u2_nj, r2_ne, r2_at, ↓i_neg1, m1_ne, m1_en, m1_lt, m1_le, m1_nlt, m1_nle, i_lits, true_and, and_true]
        rw [b_or, b_one]
        simp
      · simp (disch := omega) only [↓gI_t, ↓pI_t, ↓pZ_t, ↓ck_t, ↓aN_t, ↓cI_s, ↓cV_s, ↓cR_s, ↓onR_s, ↓onR_n, ↓nmI_t, ↓reduceIte, gA_t, aI_t, sI_t, aA_t, aB_t, sB_t, rmI_t, dvI_t, nI_add, pk_mul, pk_sub, nI_leI, nI_ltI, nI_eq, n_leT, n_leF, n_ltT, n_ltF, n_eqT, n_eqF, u2_ne, u2_at, u2_nj, r2_ne, r2_at, ↓i_neg1, m1_ne, m1_en, m1_lt, m1_le, m1_nlt, m1_nle, i_lits, true_and, and_true]
        rfl
      · simp (disch := omega) only [↓gI_t, ↓pI_t, ↓pZ_t, ↓ck_t, ↓aN_t, ↓cI_s, ↓cV_s, ↓cR_s, ↓onR_s, ↓onR_n, ↓nmI_t, ↓reduceIte, gA_t, aI_t, sI_t, aA_t, aB_t, sB_t, rmI_t, dvI_t, nI_add, pk_mul, pk_sub, nI_leI, nI_ltI, nI_eq, n_leT, n_leF, n_ltT, n_ltF, n_eqT, n_eqF, u2_ne, u2_at, u2_nj, r2_ne, r2_at, ↓i_neg1, m1_ne, m1_en, m1_lt, m1_le, m1_nlt, m1_nle, i_lits, true_and, and_true]
        rfl
    · have hv : k'.val ≠ k.val := fun z => hz (Fin.ext z)
      simp only [hz, ↓reduceIte]
      refine ⟨?_, ?_, ?_⟩
      · simp (disch := omega) only [↓gI_t, ↓pI_t, ↓pZ_t, ↓ck_t, ↓aN_t, ↓cI_s, ↓cV_s, ↓cR_s, ↓onR_s, ↓onR_n, ↓nmI_t, ↓reduceIte, gA_t, aI_t, sI_t, aA_t, aB_t, sB_t, rmI_t, dvI_t, nI_add, pk_mul, pk_sub, nI_leI, nI_ltI, nI_eq, n_leT, n_leF, n_ltT, n_ltF, n_eqT, n_eqF, u2_ne, u2_at, u2_nj, r2_ne, r2_at, ↓i_neg1, m1_ne, m1_en, m1_lt, m1_le, m1_nlt, m1_nle, i_lits, true_and, and_true]
        rw [b_or, b_one, h1]
        simp [hz]
      · simp (disch := omega) only [↓gI_t, ↓pI_t, ↓pZ_t, ↓ck_t, ↓aN_t, ↓cI_s, ↓cV_s, ↓cR_s, ↓onR_s, ↓onR_n, ↓nmI_t, ↓reduceIte, gA_t, aI_t, sI_t, aA_t, aB_t, sB_t, rmI_t, dvI_t, nI_add, pk_mul, pk_sub, nI_leI, nI_ltI, nI_eq, n_leT, n_leF, n_ltT, n_ltF, n_eqT, n_eqF, u2_ne, u2_at, u2_nj, r2_ne, r2_at, ↓i_neg1, m1_ne, m1_en, m1_lt, m1_le, m1_nlt, m1_nle, i_lits, true_and, and_true, h2]
      · simp (disch := omega) only [↓gI_t, ↓pI_t, ↓pZ_t, ↓ck_t, ↓aN_t, ↓cI_s, ↓cV_s, ↓cR_s, ↓onR_s, ↓onR_n, ↓nmI_t, ↓reduceIte, gA_t, aI_t, sI_t, aA_t, aB_t, sB_t, rmI_t, dvI_t, nI_add, pk_mul, pk_sub, nI_leI, nI_ltI, nI_eq, n_leT, n_leF, n_ltT, n_ltF, n_eqT, n_eqF, u2_ne, u2_at, u2_nj, r2_ne, r2_at, ↓i_neg1, m1_ne, m1_en, m1_lt, m1_le, m1_nlt, m1_nle, i_lits, true_and, and_true, h3]
theorem ky_remove (sh : shKy T a) (h : KyC I a f) (k : Fin 16) : ∃ I', f_ky_remove a (kv k) ((I, T) : Mem) = some ((I', T) : Mem) ∧ Frm a 3 I I' ∧ KyC I' a (fun k' => if k' = k then none else f k') := by
  have hk := k.isLt
  unfold shKy at sh
  have e : nI k.val &&& nI 15 = nI k.val := by rw [msk15 (by omega), Nat.mod_eq_of_lt (by omega)]
  have e2 : nI k.val &&& nI 31 = nI k.val := by rw [msk31 (by omega), Nat.mod_eq_of_lt (by omega)]
  refine ⟨u2 (u2 (u2 I (a + 1) k.val (nI 0)) (a + 2) k.val (nI 0)) a 2 (I a 2 &&& (nI 1 <<< nI k.val ^^^ m1)), ?_, ?_, ?_⟩
  · unfold f_ky_remove kv
    simp (disch := omega) only [↓gI_t, ↓pI_t, ↓pZ_t, ↓ck_t, ↓aN_t, ↓cI_s, ↓cV_s, ↓cR_s, ↓onR_s, ↓onR_n, ↓nmI_t, ↓reduceIte, gA_t, aI_t, sI_t, aA_t, aB_t, sB_t, rmI_t, dvI_t, nI_add, pk_mul, pk_sub, nI_leI, nI_ltI, nI_eq, n_leT, n_leF, n_ltT, n_ltF, n_eqT, n_eqF, u2_ne, u2_at, u2_nj, r2_ne, r2_at, ↓i_neg1, m1_ne, m1_en, m1_lt, m1_le, m1_nlt, m1_nle, i_lits, true_and, and_true, sh, e, e2]
  · exact Frm_u2 (Frm_u2 (Frm_u2 Frm_rf (by omega) (by omega)) (by omega) (by omega)) (by omega) (by omega)
  · intro k'
    obtain ⟨h1, h2, h3⟩ := h k'
    by_cases hz : k' = k
    · subst hz
      simp only [↓reduceIte]
      refine ⟨?_, ?_, ?_⟩
      · simp (disch := omega) only [↓gI_t, ↓pI_t, ↓pZ_t, ↓ck_t, ↓aN_t, ↓cI_s, ↓cV_s, ↓cR_s, ↓onR_s, ↓onR_n, ↓nmI_t, ↓reduceIte, gA_t, aI_t, sI_t, aA_t, aB_t, sB_t, rmI_t, dvI_t, nI_add, pk_mul, pk_sub, nI_leI, nI_ltI, nI_eq, n_leT, n_leF, n_ltT, n_ltF, n_eqT, n_eqF, u2_ne, u2_at, u2_nj, r2_ne, r2_at, ↓i_neg1, m1_ne, m1_en, m1_lt, m1_le, m1_nlt, m1_nle, i_lits, true_and, and_true]
        rw [b_and, b_xor, b_one, b_m1 _ (by omega)]
        simp
      · simp (disch := omega) only [↓gI_t, ↓pI_t, ↓pZ_t, ↓ck_t, ↓aN_t, ↓cI_s, ↓cV_s, ↓cR_s, ↓onR_s, ↓onR_n, ↓nmI_t, ↓reduceIte, gA_t, aI_t, sI_t, aA_t, aB_t, sB_t, rmI_t, dvI_t, nI_add, pk_mul, pk_sub, nI_leI, nI_ltI, nI_eq, n_leT, n_leF, n_ltT, n_ltF, n_eqT, n_eqF, u2_ne, u2_at, u2_nj, r2_ne, r2_at, ↓i_neg1, m1_ne, m1_en, m1_lt, m1_le, m1_nlt, m1_nle, i_lits, true_and, and_true]
        rfl
      · simp (disch := omega) only [↓gI_t, ↓pI_t, ↓pZ_t, ↓ck_t, ↓aN_t, ↓cI_s, ↓cV_s, ↓cR_s, ↓onR_s, ↓onR_n, ↓nmI_t, ↓reduceIte, gA_t, aI_t, sI_t, aA_t, aB_t, sB_t, rmI_t, dvI_t, nI_add, pk_mul, pk_sub, nI_leI, nI_ltI, nI_eq, n_leT, n_leF, n_ltT, n_ltF, n_eqT, n_eqF, u2_ne, u2_at, u2_nj, r2_ne, r2_at, ↓i_neg1, m1_ne, m1_en, m1_lt, m1_le, m1_nlt, m1_nle, i_lits, true_and, and_true]
        rfl
    · have hv : k'.val ≠ k.val := fun z => hz (Fin.ext z)
      simp only [hz, ↓reduceIte]
      refine ⟨?_, ?_, ?_⟩
      · simp (disch := omega) only [↓gI_t, ↓pI_t, ↓pZ_t, ↓ck_t, ↓aN_t, ↓cI_s, ↓cV_s, ↓cR_s, ↓onR_s, ↓onR_n, ↓nmI_t, ↓reduceIte, gA_t, aI_t, sI_t, aA_t, aB_t, sB_t, rmI_t, dvI_t, nI_add, pk_mul, pk_sub, nI_leI, nI_ltI, nI_eq, n_leT, n_leF, n_ltT, n_ltF, n_eqT, n_eqF, u2_ne, u2_at, u2_nj, r2_ne, r2_at, ↓i_neg1, m1_ne, m1_en, m1_lt, m1_le, m1_nlt, m1_nle, i_lits, true_and, and_true]
        rw [b_and, b_xor, b_one, b_m1 _ (by omega), h1]
        simp [hz]
      · simp (disch := omega) only [↓gI_t, ↓pI_t, ↓pZ_t, ↓ck_t, ↓aN_t, ↓cI_s, ↓cV_s, ↓cR_s, ↓onR_s, ↓onR_n, ↓nmI_t, ↓reduceIte, gA_t, aI_t, sI_t, aA_t, aB_t, sB_t, rmI_t, dvI_t, nI_add, pk_mul, pk_sub, nI_leI, nI_ltI, nI_eq, n_leT, n_leF, n_ltT, n_ltF, n_eqT, n_eqF, u2_ne, u2_at, u2_nj, r2_ne, r2_at, ↓i_neg1, m1_ne, m1_en, m1_lt, m1_le, m1_nlt, m1_nle, i_lits, true_and, and_true, h2]
      · simp (disch := omega) only [↓gI_t, ↓pI_t, ↓pZ_t, ↓ck_t, ↓aN_t, ↓cI_s, ↓cV_s, ↓cR_s, ↓onR_s, ↓onR_n, ↓nmI_t, ↓reduceIte, gA_t, aI_t, sI_t, aA_t, aB_t, sB_t, rmI_t, dvI_t, nI_add, pk_mul, pk_sub, nI_leI, nI_ltI, nI_eq, n_leT, n_leF, n_ltT, n_ltF, n_eqT, n_eqF, u2_ne, u2_at, u2_nj, r2_ne, r2_at, ↓i_neg1, m1_ne, m1_en, m1_lt, m1_le, m1_nlt, m1_nle, i_lits, true_and, and_true, h3]
theorem ky_copyKey {b : Nat} {g : Kst} (sh : shKy T a) (sb : shKy T b) (hd : a + 3 ≤ b ∨ b + 3 ≤ a) (h : KyC I a f) (hb : KyC I b g) (k : Fin 16) : ∃ I', f_ky_copyKey a b (kv k) ((I, T) : Mem) = some ((I', T) : Mem) ∧ Frm a 3 I I' ∧ KyC I' a (fun k' => if k' = k then g k else f k') := by
  have hk := k.isLt
  unfold shKy at sh sb
  have e : nI k.val &&& nI 15 = nI k.val := by rw [msk15 (by omega), Nat.mod_eq_of_lt (by omega)]
  have e2 : nI k.val &&& nI 31 = nI k.val := by rw [msk31 (by omega), Nat.mod_eq_of_lt (by omega)]
  obtain ⟨b1, b2, b3⟩ := hb k
  refine ⟨u2 (u2 (u2 I (a + 1) k.val (fst0 (g k))) (a + 2) k.val (snd0 (g k))) a 2 ((I a 2 &&& (nI 1 <<< nI k.val ^^^ m1)) ||| (I b 2 &&& nI 1 <<< nI k.val)), ?_, ?_, ?_⟩
  · unfold f_ky_copyKey kv
    simp (disch := omega) only [↓gI_t, ↓pI_t, ↓pZ_t, ↓ck_t, ↓aN_t, ↓cI_s, ↓cV_s, ↓cR_s, ↓onR_s, ↓onR_n, ↓nmI_t, ↓reduceIte, gA_t, aI_t, sI_t, aA_t, aB_t, sB_t, rmI_t, dvI_t, nI_add, pk_mul, pk_sub, nI_leI, nI_ltI, nI_eq, n_leT, n_leF, n_ltT, n_ltF, n_eqT, n_eqF, u2_ne, u2_at, u2_nj, r2_ne, r2_at, ↓i_neg1, m1_ne, m1_en, m1_lt, m1_le, m1_nlt, m1_nle, i_lits, true_and, and_true, sh, sb, e, e2, b2, b3]
  · exact Frm_u2 (Frm_u2 (Frm_u2 Frm_rf (by omega) (by omega)) (by omega) (by omega)) (by omega) (by omega)
  · intro k'
    obtain ⟨h1, h2, h3⟩ := h k'
    by_cases hz : k' = k
    · subst hz
      simp only [↓reduceIte]
      refine ⟨?_, ?_, ?_⟩
      · simp (disch := omega) only [↓gI_t, ↓pI_t, ↓pZ_t, ↓ck_t, ↓aN_t, ↓cI_s, ↓cV_s, ↓cR_s, ↓onR_s, ↓onR_n, ↓nmI_t, ↓reduceIte, gA_t, aI_t, sI_t, aA_t, aB_t, sB_t, rmI_t, dvI_t, nI_add, pk_mul, pk_sub, nI_leI, nI_ltI, nI_eq, n_leT, n_leF, n_ltT, n_ltF, n_eqT, n_eqF, u2_ne, u2_at, u2_nj, r2_ne, r2_at, ↓i_neg1, m1_ne, m1_en, m1_lt, m1_le, m1_nlt, m1_nle, i_lits, true_and, and_true]
        rw [b_or, b_and, b_and, b_xor, b_one, b_m1 _ (by omega), b1]
        simp
      · simp (disch := omega) only [↓gI_t, ↓pI_t, ↓pZ_t, ↓ck_t, ↓aN_t, ↓cI_s, ↓cV_s, ↓cR_s, ↓onR_s, ↓onR_n, ↓nmI_t, ↓reduceIte, gA_t, aI_t, sI_t, aA_t, aB_t, sB_t, rmI_t, dvI_t, nI_add, pk_mul, pk_sub, nI_leI, nI_ltI, nI_eq, n_leT, n_leF, n_ltT, n_ltF, n_eqT, n_eqF, u2_ne, u2_at, u2_nj, r2_ne, r2_at, ↓i_neg1, m1_ne, m1_en, m1_lt, m1_le, m1_nlt, m1_nle, i_lits, true_and, and_true]
      · simp (disch := omega) only [↓gI_t, ↓pI_t, ↓pZ_t, ↓ck_t, ↓aN_t, ↓cI_s, ↓cV_s, ↓cR_s, ↓onR_s, ↓onR_n, ↓nmI_t, ↓reduceIte, gA_t, aI_t, sI_t, aA_t, aB_t, sB_t, rmI_t, dvI_t, nI_add, pk_mul, pk_sub, nI_leI, nI_ltI, nI_eq, n_leT, n_leF, n_ltT, n_ltF, n_eqT, n_eqF, u2_ne, u2_at, u2_nj, r2_ne, r2_at, ↓i_neg1, m1_ne, m1_en, m1_lt, m1_le, m1_nlt, m1_nle, i_lits, true_and, and_true]
    · have hv : k'.val ≠ k.val := fun z => hz (Fin.ext z)
      simp only [hz, ↓reduceIte]
      refine ⟨?_, ?_, ?_⟩
      · simp (disch := omega) only [↓gI_t, ↓pI_t, ↓pZ_t, ↓ck_t, ↓aN_t, ↓cI_s, ↓cV_s, ↓cR_s, ↓onR_s, ↓onR_n, ↓nmI_t, ↓reduceIte, gA_t, aI_t, sI_t, aA_t, aB_t, sB_t, rmI_t, dvI_t, nI_add, pk_mul, pk_sub, nI_leI, nI_ltI, nI_eq, n_leT, n_leF, n_ltT, n_ltF, n_eqT, n_eqF, u2_ne, u2_at, u2_nj, r2_ne, r2_at, ↓i_neg1, m1_ne, m1_en, m1_lt, m1_le, m1_nlt, m1_nle, i_lits, true_and, and_true]
        rw [b_or, b_and, b_and, b_xor, b_one, b_m1 _ (by omega), h1]
        simp [hz]
      · simp (disch := omega) only [↓gI_t, ↓pI_t, ↓pZ_t, ↓ck_t, ↓aN_t, ↓cI_s, ↓cV_s, ↓cR_s, ↓onR_s, ↓onR_n, ↓nmI_t, ↓reduceIte, gA_t, aI_t, sI_t, aA_t, aB_t, sB_t, rmI_t, dvI_t, nI_add, pk_mul, pk_sub, nI_leI, nI_ltI, nI_eq, n_leT, n_leF, n_ltT, n_ltF, n_eqT, n_eqF, u2_ne, u2_at, u2_nj, r2_ne, r2_at, ↓i_neg1, m1_ne, m1_en, m1_lt, m1_le, m1_nlt, m1_nle, i_lits, true_and, and_true, h2]
      · simp (disch := omega) only [↓gI_t, ↓pI_t, ↓pZ_t, ↓ck_t, ↓aN_t, ↓cI_s, ↓cV_s, ↓cR_s, ↓onR_s, ↓onR_n, ↓nmI_t, ↓reduceIte, gA_t, aI_t, sI_t, aA_t, aB_t, sB_t, rmI_t, dvI_t, nI_add, pk_mul, pk_sub, nI_leI, nI_ltI, nI_eq, n_leT, n_leF, n_ltT, n_ltF, n_eqT, n_eqF, u2_ne, u2_at, u2_nj, r2_ne, r2_at, ↓i_neg1, m1_ne, m1_en, m1_lt, m1_le, m1_nlt, m1_nle, i_lits, true_and, and_true, h3]
theorem ky_copyAll {b : Nat} {g : Kst} (sh : shKy T a) (sb : shKy T b) (hd : a + 3 ≤ b ∨ b + 3 ≤ a) (hb : KyC I b g) : ∃ I', f_ky_copyAll a b ((I, T) : Mem) = some ((I', T) : Mem) ∧ Frm a 3 I I' ∧ KyC I' a g := by
  unfold shKy at sh sb
  refine ⟨u2 (r2 (r2 I (a + 1) (va_cpy (I (b + 1)) (I (a + 1)) 0 0 16)) (a + 2) (va_cpy (I (b + 2)) (I (a + 2)) 0 0 16)) a 2 (I b 2), ?_, ?_, ?_⟩
  · unfold f_ky_copyAll
    simp (disch := omega) only [↓gI_t, ↓pI_t, ↓pZ_t, ↓ck_t, ↓aN_t, ↓cI_s, ↓cV_s, ↓cR_s, ↓onR_s, ↓onR_n, ↓nmI_t, ↓reduceIte, gA_t, aI_t, sI_t, aA_t, aB_t, sB_t, rmI_t, dvI_t, nI_add, pk_mul, pk_sub, nI_leI, nI_ltI, nI_eq, n_leT, n_leF, n_ltT, n_ltF, n_eqT, n_eqF, u2_ne, u2_at, u2_nj, r2_ne, r2_at, ↓i_neg1, m1_ne, m1_en, m1_lt, m1_le, m1_nlt, m1_nle, i_lits, true_and, and_true, sh, sb, cpA_t]
  · exact Frm_u2 (Frm_r2 (Frm_r2 Frm_rf (by omega) (by omega)) (by omega) (by omega)) (by omega) (by omega)
  · intro k
    have hk := k.isLt
    obtain ⟨h1, h2, h3⟩ := hb k
    have e : ∀ u v : Nat → Int32, va_cpy u v 0 0 16 k.val = u k.val := fun u v => by
      unfold va_cpy
      rw [if_pos (by omega)]
      congr 1
      omega
    refine ⟨?_, ?_, ?_⟩
    · simp (disch := omega) only [↓gI_t, ↓pI_t, ↓pZ_t, ↓ck_t, ↓aN_t, ↓cI_s, ↓cV_s, ↓cR_s, ↓onR_s, ↓onR_n, ↓nmI_t, ↓reduceIte, gA_t, aI_t, sI_t, aA_t, aB_t, sB_t, rmI_t, dvI_t, nI_add, pk_mul, pk_sub, nI_leI, nI_ltI, nI_eq, n_leT, n_leF, n_ltT, n_ltF, n_eqT, n_eqF, u2_ne, u2_at, u2_nj, r2_ne, r2_at, ↓i_neg1, m1_ne, m1_en, m1_lt, m1_le, m1_nlt, m1_nle, i_lits, true_and, and_true, h1]
    · simp (disch := omega) only [↓gI_t, ↓pI_t, ↓pZ_t, ↓ck_t, ↓aN_t, ↓cI_s, ↓cV_s, ↓cR_s, ↓onR_s, ↓onR_n, ↓nmI_t, ↓reduceIte, gA_t, aI_t, sI_t, aA_t, aB_t, sB_t, rmI_t, dvI_t, nI_add, pk_mul, pk_sub, nI_leI, nI_ltI, nI_eq, n_leT, n_leF, n_ltT, n_ltF, n_eqT, n_eqF, u2_ne, u2_at, u2_nj, r2_ne, r2_at, ↓i_neg1, m1_ne, m1_en, m1_lt, m1_le, m1_nlt, m1_nle, i_lits, true_and, and_true, e, h2]
    · simp (disch := omega) only [↓gI_t, ↓pI_t, ↓pZ_t, ↓ck_t, ↓aN_t, ↓cI_s, ↓cV_s, ↓cR_s, ↓onR_s, ↓onR_n, ↓nmI_t, ↓reduceIte, gA_t, aI_t, sI_t, aA_t, aB_t, sB_t, rmI_t, dvI_t, nI_add, pk_mul, pk_sub, nI_leI, nI_ltI, nI_eq, n_leT, n_leF, n_ltT, n_ltF, n_eqT, n_eqF, u2_ne, u2_at, u2_nj, r2_ne, r2_at, ↓i_neg1, m1_ne, m1_en, m1_lt, m1_le, m1_nlt, m1_nle, i_lits, true_and, and_true, e, h3]
theorem fill_all : ∀ (d n i m : Nat) (I : Iw), tK T a = 100 → tL T a = m → m ≤ 100000 → i + d = m → d < n → ∃ g : Nat → Int32, f_ar_fill_5 n a (nI 0) (nI i) (nI m) ((I, T) : Mem) = some ((r2 I a g, T) : Mem) ∧ (∀ x, i ≤ x → x < m → g x = nI 0) ∧ ∀ x, (x < i ∨ m ≤ x) → g x = I a x
  | d, 0, i, m, I, _, _, _, _, hn => by omega
  | 0, n + 1, i, m, I, hk, hl, hm, hd, hn => by
    refine ⟨I a, ?_, fun x h1 h2 => by omega, fun x _ => rfl⟩
    unfold f_ar_fill_5
    have : r2 I a (I a) = I := r2_self
    rw [this]
    simp (disch := omega) only [↓gI_t, ↓pI_t, ↓pZ_t, ↓ck_t, ↓aN_t, ↓cI_s, ↓cV_s, ↓cR_s, ↓onR_s, ↓onR_n, ↓nmI_t, ↓reduceIte, gA_t, aI_t, sI_t, aA_t, aB_t, sB_t, rmI_t, dvI_t, nI_add, pk_mul, pk_sub, nI_leI, nI_ltI, nI_eq, n_leT, n_leF, n_ltT, n_ltF, n_eqT, n_eqF, u2_ne, u2_at, u2_nj, r2_ne, r2_at, ↓i_neg1, m1_ne, m1_en, m1_lt, m1_le, m1_nlt, m1_nle, i_lits, true_and, and_true]
  | d + 1, n + 1, i, m, I, hk, hl, hm, hd, hn => by
    obtain ⟨g, e, g1, g2⟩ := fill_all d n (i + 1) m (u2 I a i (nI 0)) hk hl hm (by omega) (by omega)
    refine ⟨g, ?_, fun x h1 h2 => ?_, fun x h1 => ?_⟩
    · unfold f_ar_fill_5
      have : r2 (u2 I a i (nI 0)) a g = r2 I a g := r2_over
      rw [this] at e
      simp (disch := omega) only [↓gI_t, ↓pI_t, ↓pZ_t, ↓ck_t, ↓aN_t, ↓cI_s, ↓cV_s, ↓cR_s, ↓onR_s, ↓onR_n, ↓nmI_t, ↓reduceIte, gA_t, aI_t, sI_t, aA_t, aB_t, sB_t, rmI_t, dvI_t, nI_add, pk_mul, pk_sub, nI_leI, nI_ltI, nI_eq, n_leT, n_leF, n_ltT, n_ltF, n_eqT, n_eqF, u2_ne, u2_at, u2_nj, r2_ne, r2_at, ↓i_neg1, m1_ne, m1_en, m1_lt, m1_le, m1_nlt, m1_nle, i_lits, true_and, and_true, e]
    · by_cases hz : x = i
      · rw [g2 x (by omega), hz]
        exact u2_at rfl rfl
      · exact g1 x (by omega) h2
    · rw [g2 x (by omega)]
      exact u2_nj rfl (by omega)
theorem ar_fill {m : Nat} (hk : tK T a = 100) (hl : tL T a = m) (hm : m ≤ 100000) : ∃ g : Nat → Int32, f_ar_fill a (nI 0) ((I, T) : Mem) = some ((r2 I a g, T) : Mem) ∧ ∀ x, x < m → g x = nI 0 := by
  obtain ⟨g, e, g1, g2⟩ := fill_all (T := T) m FU 0 m I hk hl hm (by omega) (by unfold FU; omega)
  refine ⟨g, ?_, fun x hx => g1 x (by omega) hx⟩
  unfold f_ar_fill
  simp (disch := omega) only [↓gI_t, ↓pI_t, ↓pZ_t, ↓ck_t, ↓aN_t, ↓cI_s, ↓cV_s, ↓cR_s, ↓onR_s, ↓onR_n, ↓nmI_t, ↓reduceIte, gA_t, aI_t, sI_t, aA_t, aB_t, sB_t, rmI_t, dvI_t, nI_add, pk_mul, pk_sub, nI_leI, nI_ltI, nI_eq, n_leT, n_leF, n_ltT, n_ltF, n_eqT, n_eqF, u2_ne, u2_at, u2_nj, r2_ne, r2_at, ↓i_neg1, m1_ne, m1_en, m1_lt, m1_le, m1_nlt, m1_nle, i_lits, true_and, and_true, hk, hl, e]
theorem ky_wipe (sh : shKy T a) : ∃ I', f_ky_wipe a ((I, T) : Mem) = some ((I', T) : Mem) ∧ Frm a 3 I I' ∧ KyC I' a (fun _ => none) := by
  unfold shKy at sh
  obtain ⟨g1, e1, c1⟩ := ar_fill (T := T) (I := I) (a := a + 1) (m := 16) sh.2.2.2.1 sh.2.2.2.2.2.1 (by omega)
  obtain ⟨g2, e2, c2⟩ := ar_fill (T := T) (I := r2 I (a + 1) g1) (a := a + 2) (m := 16) sh.2.2.2.2.1 sh.2.2.2.2.2.2 (by omega)
  refine ⟨u2 (r2 (r2 I (a + 1) g1) (a + 2) g2) a 2 (nI 0), ?_, ?_, ?_⟩
  · unfold f_ky_wipe
    simp (disch := omega) only [↓gI_t, ↓pI_t, ↓pZ_t, ↓ck_t, ↓aN_t, ↓cI_s, ↓cV_s, ↓cR_s, ↓onR_s, ↓onR_n, ↓nmI_t, ↓reduceIte, gA_t, aI_t, sI_t, aA_t, aB_t, sB_t, rmI_t, dvI_t, nI_add, pk_mul, pk_sub, nI_leI, nI_ltI, nI_eq, n_leT, n_leF, n_ltT, n_ltF, n_eqT, n_eqF, u2_ne, u2_at, u2_nj, r2_ne, r2_at, ↓i_neg1, m1_ne, m1_en, m1_lt, m1_le, m1_nlt, m1_nle, i_lits, true_and, and_true, sh, e1, e2]
  · exact Frm_u2 (Frm_r2 (Frm_r2 Frm_rf (by omega) (by omega)) (by omega) (by omega)) (by omega) (by omega)
  · intro k
    have hk := k.isLt
    refine ⟨?_, ?_, ?_⟩
    · simp (disch := omega) only [↓gI_t, ↓pI_t, ↓pZ_t, ↓ck_t, ↓aN_t, ↓cI_s, ↓cV_s, ↓cR_s, ↓onR_s, ↓onR_n, ↓nmI_t, ↓reduceIte, gA_t, aI_t, sI_t, aA_t, aB_t, sB_t, rmI_t, dvI_t, nI_add, pk_mul, pk_sub, nI_leI, nI_ltI, nI_eq, n_leT, n_leF, n_ltT, n_ltF, n_eqT, n_eqF, u2_ne, u2_at, u2_nj, r2_ne, r2_at, ↓i_neg1, m1_ne, m1_en, m1_lt, m1_le, m1_nlt, m1_nle, i_lits, true_and, and_true]
      exact b_0 _
    · simp (disch := omega) only [↓gI_t, ↓pI_t, ↓pZ_t, ↓ck_t, ↓aN_t, ↓cI_s, ↓cV_s, ↓cR_s, ↓onR_s, ↓onR_n, ↓nmI_t, ↓reduceIte, gA_t, aI_t, sI_t, aA_t, aB_t, sB_t, rmI_t, dvI_t, nI_add, pk_mul, pk_sub, nI_leI, nI_ltI, nI_eq, n_leT, n_leF, n_ltT, n_ltF, n_eqT, n_eqF, u2_ne, u2_at, u2_nj, r2_ne, r2_at, ↓i_neg1, m1_ne, m1_en, m1_lt, m1_le, m1_nlt, m1_nle, i_lits, true_and, and_true]
      exact c1 _ hk
    · simp (disch := omega) only [↓gI_t, ↓pI_t, ↓pZ_t, ↓ck_t, ↓aN_t, ↓cI_s, ↓cV_s, ↓cR_s, ↓onR_s, ↓onR_n, ↓nmI_t, ↓reduceIte, gA_t, aI_t, sI_t, aA_t, aB_t, sB_t, rmI_t, dvI_t, nI_add, pk_mul, pk_sub, nI_leI, nI_ltI, nI_eq, n_leT, n_leF, n_ltT, n_ltF, n_eqT, n_eqF, u2_ne, u2_at, u2_nj, r2_ne, r2_at, ↓i_neg1, m1_ne, m1_en, m1_lt, m1_le, m1_nlt, m1_nle, i_lits, true_and, and_true]
      exact c2 _ hk
end
