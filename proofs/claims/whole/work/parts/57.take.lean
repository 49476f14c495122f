/-! THE CLASS: taking -/
def alT (T : Tl) (kd len : Nat) : Tl := (r2 (tJ T) (tN T) (fun _ => 0), r2 (tR T) (tN T) (fun _ => none), u1 (tK T) (tN T) kd, u1 (tL T) (tN T) len, tN T + 1, tS T + len, tX T)
def seR (T : Tl) (a j b : Nat) : Tl := (T.1, u2 (tR T) a j (some b), T.2.2)
theorem nA_t {α : Type} {I : Iw} {T : Tl} {kd x : Nat} {k : Nat → Mem → Option α} (hx : x ≤ 1000000) : nA ((I, T) : Mem) kd (nI x) k = k (tN T) ((r2 I (tN T) (fun _ => 0), alT T kd x) : Mem) := by
  have e : (nI x).toNatClampNeg = x := nI_clamp (by omega)
  refine (if_pos ⟨nI_pos (by omega), by rw [e]; exact hx⟩).trans ?_
  rw [e]
  rfl
theorem pR_t {α : Type} {I : Iw} {T : Tl} {c j a b : Nat} {k : Mem → Option α} (h : tK T a = c) : pR c j ((I, T) : Mem) a b k = k ((I, seR T a j b) : Mem) := if_pos h
theorem u1_ne {α : Type} {f : Nat → α} {k a : Nat} {v : α} (h : a ≠ k) : u1 f k v a = f a := if_neg h
theorem u1_at {α : Type} {f : Nat → α} {k a : Nat} {v : α} (h : a = k) : u1 f k v a = v := if_pos h
/-- the rows' room: how many cells and places there are -/
def Rm (T : Tl) : Prop := ∃ lv tv wv, tR T 18 0 = some lv ∧ tR T 1 0 = some tv ∧ tR T 3 0 = some wv ∧ tN T ≤ 560 + tL T lv + tL T tv + tL T wv ∧ tS T ≤ 60000 + 2 * (tL T lv + tL T tv + tL T wv) ∧ tv < tN T ∧ wv < tN T
/-- a later shape: the latencies' row may be a new one -/
def Ext (T T' : Tl) : Prop := (∀ a, a < tN T → tK T' a = tK T a ∧ tL T' a = tL T a) ∧ (∀ a j, a < 550 → ¬ (a = 18 ∧ j = 0) → tR T' a j = tR T a j) ∧ tN T ≤ tN T' ∧ tX T' = tX T ∧ (∀ a, a < tN T → tJ T' a = tJ T a) ∧ (Rm T → Rm T') ∧ ∀ b, tR T' 18 0 = some b → tR T 18 0 = some b ∨ tN T ≤ b
theorem Ext_rf {T : Tl} : Ext T T := ⟨fun _ _ => ⟨rfl, rfl⟩, fun _ _ _ _ => rfl, Nat.le_refl _, rfl, fun _ _ => rfl, id, fun _ h => Or.inl h⟩
theorem Ext_tr {T T1 T2 : Tl} (h1 : Ext T T1) (h2 : Ext T1 T2) : Ext T T2 := by
  obtain ⟨a1, a2, a3, a4, a5, a6, a7⟩ := h1
  obtain ⟨b1, b2, b3, b4, b5, b6, b7⟩ := h2
  refine ⟨fun a h => ?_, fun a j h h' => (b2 a j h h').trans (a2 a j h h'), by omega, b4.trans a4, fun a h => (b5 a (by omega)).trans (a5 a h), fun h => b6 (a6 h), fun b h => ?_⟩
  · rw [(b1 a (by omega)).1, (b1 a (by omega)).2]
    exact a1 a h
  · rcases b7 b h with h | h
    · exact a7 b h
    · exact Or.inr (by omega)
theorem FX_ext {T T1 : Tl} {I I1 I2 : Iw} (h : FX T I I1) (e : Ext T T1) (h2 : FX T1 I1 I2) : FX T I I2 := fun a ha hb hc => by
  refine (h2 a (by have := e.2.2.1; omega) hb (fun z => ?_)).trans (h a ha hb hc)
  rcases e.2.2.2.2.2.2 a z with w | w
  · exact hc w
  · omega
section
variable {T T' : Tl}
theorem Ext.rc {p m : Nat} (e : Ext T T') (hn : 550 ≤ tN T) (hp : p + 4 ≤ 550) (h18 : p ≠ 18) (h : shRc T p m) : shRc T' p m := by
  unfold shRc at h ⊢
  rw [(e.1 p (by omega)).1, (e.1 (p + 1) (by omega)).1, (e.1 (p + 2) (by omega)).1, (e.1 (p + 3) (by omega)).1, (e.1 (p + 1) (by omega)).2, (e.1 (p + 2) (by omega)).2, (e.1 (p + 3) (by omega)).2, e.2.1 p 0 (by omega) (by omega), e.2.1 p 1 (by omega) (by omega), e.2.1 p 2 (by omega) (by omega)]
  exact h
theorem Ext.ky {p : Nat} (e : Ext T T') (hn : 550 ≤ tN T) (hp : p + 3 ≤ 550) (h18 : p ≠ 18) (h : shKy T p) : shKy T' p := by
  unfold shKy at h ⊢
  rw [(e.1 p (by omega)).1, (e.1 (p + 1) (by omega)).1, (e.1 (p + 2) (by omega)).1, (e.1 (p + 1) (by omega)).2, (e.1 (p + 2) (by omega)).2, e.2.1 p 0 (by omega) (by omega), e.2.1 p 1 (by omega) (by omega)]
  exact h
theorem Ext.ch {p : Nat} (e : Ext T T') (hn : 550 ≤ tN T) (hp : p + 6 ≤ 550) (h : shCh T p) : shCh T' p := by
  obtain ⟨h1, h2, h3, h4, h5, h6, h7, h8, h9⟩ := h
  refine ⟨?_, ?_, ?_, ?_, ?_, ?_, ?_, h8, e.rc hn (by omega) (by omega) h9⟩
  · rw [(e.1 p (by omega)).1]; exact h1
  · rw [e.2.1 p 0 (by omega) (by omega)]; exact h2
  · rw [e.2.1 p 1 (by omega) (by omega)]; exact h3
  · rw [e.2.1 p 2 (by omega) (by omega)]; exact h4
  · rw [(e.1 (p + 5) (by omega)).1]; exact h5
  · rw [(e.1 (p + 5) (by omega)).2]; exact h6
  · rw [(e.1 11 (by omega)).1]; exact h7
theorem Ext.op {p : Nat} (e : Ext T T') (hn : 550 ≤ tN T) (hp : p + 33 ≤ 550) (h20 : 20 ≤ p) (h : shOp T p) : shOp T' p := by
  obtain ⟨h1, h2, h3, h4, h5, h6, h7, h8, h9, h10, h11, h12, h13, h14, h15, h16⟩ := h
  refine ⟨?_, ?_, ?_, ?_, fun i hi => ?_, ?_, ?_, ?_, ?_, ?_, e.ky hn (by omega) (by omega) h11, e.ky hn (by omega) (by omega) h12, e.ky hn (by omega) (by omega) h13, e.ky hn (by omega) (by omega) h14, e.rc hn (by omega) (by omega) h15, fun i hi => ?_⟩
  · rw [(e.1 p (by omega)).1]; exact h1
  · rw [e.2.1 p 0 (by omega) (by omega)]; exact h2
  · rw [(e.1 (p + 1) (by omega)).1]; exact h3
  · rw [(e.1 (p + 1) (by omega)).2]; exact h4
  · rw [e.2.1 (p + 1) i (by omega) (by omega)]; exact h5 i hi
  · rw [e.2.1 p 1 (by omega) (by omega)]; exact h6
  · rw [e.2.1 p 2 (by omega) (by omega)]; exact h7
  · rw [e.2.1 p 3 (by omega) (by omega)]; exact h8
  · rw [e.2.1 p 4 (by omega) (by omega)]; exact h9
  · rw [e.2.1 p 5 (by omega) (by omega)]; exact h10
  · obtain ⟨k1, k2, k3⟩ := h16 i hi
    refine ⟨?_, ?_, e.rc hn (by omega) (by omega) k3⟩
    · rw [(e.1 (p + 18 + 5 * i) (by omega)).1]; exact k1
    · rw [e.2.1 (p + 18 + 5 * i) 0 (by omega) (by omega)]; exact k2
theorem Ext.sm (e : Ext T T') (hn : 550 ≤ tN T) (h : shSm T) : shSm T' := by
  obtain ⟨h1, h2, h3, h4, h5, h6, h7, h8, h9, h10, h11, h12, h13, h14, h15, h16, h17⟩ := h
  refine ⟨?_, ?_, ?_, ?_, ?_, ?_, ?_, ?_, ?_, ?_, ?_, ?_, e.rc hn (by omega) (by omega) h13, fun o ho => ?_, fun c hc => ?_, fun o ho => e.op hn (by omega) (by omega) (h16 o ho), fun c hc => e.ch hn (by omega) (h17 c hc)⟩
  · rw [(e.1 10 (by omega)).1]; exact h1
  · rw [e.2.1 10 0 (by omega) (by omega)]; exact h2
  · rw [e.2.1 10 1 (by omega) (by omega)]; exact h3
  · rw [e.2.1 10 2 (by omega) (by omega)]; exact h4
  · rw [e.2.1 10 3 (by omega) (by omega)]; exact h5
  · rw [e.2.1 10 4 (by omega) (by omega)]; exact h6
  · rw [(e.1 11 (by omega)).1]; exact h7
  · rw [(e.1 16 (by omega)).1]; exact h8
  · rw [(e.1 16 (by omega)).2]; exact h9
  · rw [(e.1 17 (by omega)).1]; exact h10
  · rw [(e.1 17 (by omega)).2]; exact h11
  · rw [(e.1 18 (by omega)).1]; exact h12
  · rw [e.2.1 16 o (by omega) (by omega)]; exact h14 o ho
  · rw [e.2.1 17 c (by omega) (by omega)]; exact h15 c hc
end
section
variable {T : Tl} {I : Iw} {E : Env} {D : Dy} {g : Nat → Kst} {Q : Slow} {o i : Nat}
theorem ma_min {a b : Nat} (M : Mem) (ha : a < 2 ^ 31) (hb : b < 2 ^ 31) : f_ma_min (nI a) (nI b) M = some (nI (min a b), M) := by
  unfold f_ma_min
  by_cases h : b < a
  · rw [if_pos ((nI_ltI hb ha).mpr h), Nat.min_eq_right (by omega)]
  · rw [if_neg (fun z => h ((nI_ltI hb ha).mp z)), Nat.min_eq_left (by omega)]
theorem ma_max {a b : Nat} (M : Mem) (ha : a < 2 ^ 31) (hb : b < 2 ^ 31) : f_ma_max (nI a) (nI b) M = some (nI (max a b), M) := by
  unfold f_ma_max
  by_cases h : a < b
  · rw [if_pos ((nI_ltI ha hb).mpr h), Nat.max_eq_right (by omega)]
  · rw [if_neg (fun z => h ((nI_ltI ha hb).mp z)), Nat.max_eq_left (by omega)]
theorem note44 {lv t m : Nat} {u : Int32} (h5 : tK T 18 = 5) (hr : tR T 18 0 = some lv) (hk : tK T lv = 100) (hl : t < tL T lv) (ht : t < 2 ^ 30) (hne : lv ≠ 18) (c : Nat) (hc : I lv t = nI c) (hm : I 18 1 = nI m) (hu : I 18 2 = u) : f_la_note_44 18 (nI t) (nI t) ((I, T) : Mem) = some ((u2 (u2 (u2 I lv t (nI (c + 1))) 18 1 (nI (m + 1))) 18 2 (u + nI t), T) : Mem) := by
  unfold f_la_note_44
  simp (disch := omega) only [↓gI_t, ↓pI_t, ↓pZ_t, ↓ck_t, ↓aN_t, ↓cI_s, ↓cV_s, ↓cR_s, ↓onR_s, ↓onR_n, ↓nmI_t, ↓reduceIte, gA_t, aI_t, sI_t, aA_t, aB_t, sB_t, rmI_t, dvI_t, nI_add, pk_mul, pk_sub, nI_leI, nI_ltI, nI_eq, n_leT, n_leF, n_ltT, n_ltF, n_eqT, n_eqF, u2_ne, u2_at, u2_nj, r2_ne, r2_at, ↓i_neg1, m1_ne, m1_en, m1_lt, m1_le, m1_nlt, m1_nle, i_lits, true_and, and_true, h5, hr, hk, hc, hm, hu]
theorem la_note (h5 : tK T 18 = 5) (hn : 550 ≤ tN T) (h : LaC I T D) {t : Nat} (ht : t < 40000) : ∃ I' T', f_la_note 18 (nI t) ((I, T) : Mem) = some ((I', T') : Mem) ∧ LaC I' T' (zsU (zsM (zsT D (upw (dT D) t (dT D t + 1))) (dM D + 1)) (dU D + nI t)) ∧ Ext T T' ∧ ∀ a, a < tN T → a ≠ 18 → tR T 18 0 ≠ some a → I' a = I a := by
  obtain ⟨lv, r1, r2', r3, r4, r5, r6, r7, r8, r9, r10⟩ := h
  have hne : lv ≠ 18 := by omega
  have e1 := fun M => ma_min (a := t) (b := 131071) M (by omega) (by omega)
  have e2 := fun M => ma_max (a := 0) (b := t) M (by omega) (by omega)
  rw [Nat.min_eq_left (by omega)] at e1
  rw [Nat.max_eq_right (by omega)] at e2
  unfold f_la_note
  by_cases hz : t < tL T lv
  · have e3 := note44 (I := I) h5 r1 r2' hz (by omega) hne _ (r9 t hz) r7 r8
    refine ⟨u2 (u2 (u2 I lv t (nI (dT D t + 1))) 18 1 (nI (dM D + 1))) 18 2 (dU D + nI t), T, ?_, ⟨lv, r1, r2', r3, r4, r5, r6, ?_, ?_, fun x hx => ?_, fun x hx => ?_⟩, Ext_rf, fun a ha h18 hlv => ?_⟩
    · simp (disch := omega) only [↓gI_t, ↓pI_t, ↓pZ_t, ↓ck_t, ↓aN_t, ↓cI_s, ↓cV_s, ↓cR_s, ↓onR_s, ↓onR_n, ↓nmI_t, ↓reduceIte, gA_t, aI_t, sI_t, aA_t, aB_t, sB_t, rmI_t, dvI_t, nI_add, pk_mul, pk_sub, nI_leI, nI_ltI, nI_eq, n_leT, n_leF, n_ltT, n_ltF, n_eqT, n_eqF, u2_ne, u2_at, u2_nj, r2_ne, r2_at, ↓i_neg1, m1_ne, m1_en, m1_lt, m1_le, m1_nlt, m1_nle, i_lits, true_and, and_true, e1, e2, h5, r1, r2']
      exact e3
    · simp only [gs_U, gs_M, gs_T]
      simp (disch := omega) only [↓gI_t, ↓pI_t, ↓pZ_t, ↓ck_t, ↓aN_t, ↓cI_s, ↓cV_s, ↓cR_s, ↓onR_s, ↓onR_n, ↓nmI_t, ↓reduceIte, gA_t, aI_t, sI_t, aA_t, aB_t, sB_t, rmI_t, dvI_t, nI_add, pk_mul, pk_sub, nI_leI, nI_ltI, nI_eq, n_leT, n_leF, n_ltT, n_ltF, n_eqT, n_eqF, u2_ne, u2_at, u2_nj, r2_ne, r2_at, ↓i_neg1, m1_ne, m1_en, m1_lt, m1_le, m1_nlt, m1_nle, i_lits, true_and, and_true]
    · simp only [gs_U, gs_M, gs_T]
      simp (disch := omega) only [↓gI_t, ↓pI_t, ↓pZ_t, ↓ck_t, ↓aN_t, ↓cI_s, ↓cV_s, ↓cR_s, ↓onR_s, ↓onR_n, ↓nmI_t, ↓reduceIte, gA_t, aI_t, sI_t, aA_t, aB_t, sB_t, rmI_t, dvI_t, nI_add, pk_mul, pk_sub, nI_leI, nI_ltI, nI_eq, n_leT, n_leF, n_ltT, n_ltF, n_eqT, n_eqF, u2_ne, u2_at, u2_nj, r2_ne, r2_at, ↓i_neg1, m1_ne, m1_en, m1_lt, m1_le, m1_nlt, m1_nle, i_lits, true_and, and_true]
    · simp only [gs_U, gs_M, gs_T]
      by_cases hy : x = t
      · rw [hy, upw_eq]
        simp (disch := omega) only [↓gI_t, ↓pI_t, ↓pZ_t, ↓ck_t, ↓aN_t, ↓cI_s, ↓cV_s, ↓cR_s, ↓onR_s, ↓onR_n, ↓nmI_t, ↓reduceIte, gA_t, aI_t, sI_t, aA_t, aB_t, sB_t, rmI_t, dvI_t, nI_add, pk_mul, pk_sub, nI_leI, nI_ltI, nI_eq, n_leT, n_leF, n_ltT, n_ltF, n_eqT, n_eqF, u2_ne, u2_at, u2_nj, r2_ne, r2_at, ↓i_neg1, m1_ne, m1_en, m1_lt, m1_le, m1_nlt, m1_nle, i_lits, true_and, and_true]
      · rw [upw_ne hy]
        simp (disch := omega) only [↓gI_t, ↓pI_t, ↓pZ_t, ↓ck_t, ↓aN_t, ↓cI_s, ↓cV_s, ↓cR_s, ↓onR_s, ↓onR_n, ↓nmI_t, ↓reduceIte, gA_t, aI_t, sI_t, aA_t, aB_t, sB_t, rmI_t, dvI_t, nI_add, pk_mul, pk_sub, nI_leI, nI_ltI, nI_eq, n_leT, n_leF, n_ltT, n_ltF, n_eqT, n_eqF, u2_ne, u2_at, u2_nj, r2_ne, r2_at, ↓i_neg1, m1_ne, m1_en, m1_lt, m1_le, m1_nlt, m1_nle, i_lits, true_and, and_true, r9 x hx]
    · simp only [gs_U, gs_M, gs_T]
      rw [upw_ne (by omega)]
      exact r10 x hx
    · have : a ≠ lv := fun z => hlv (by rw [z]; exact r1)
      simp (disch := omega) only [↓gI_t, ↓pI_t, ↓pZ_t, ↓ck_t, ↓aN_t, ↓cI_s, ↓cV_s, ↓cR_s, ↓onR_s, ↓onR_n, ↓nmI_t, ↓reduceIte, gA_t, aI_t, sI_t, aA_t, aB_t, sB_t, rmI_t, dvI_t, nI_add, pk_mul, pk_sub, nI_leI, nI_ltI, nI_eq, n_leT, n_leF, n_ltT, n_ltF, n_eqT, n_eqF, u2_ne, u2_at, u2_nj, r2_ne, r2_at, ↓i_neg1, m1_ne, m1_en, m1_lt, m1_le, m1_nlt, m1_nle, i_lits, true_and, and_true]
  · obtain ⟨m, hm⟩ : ∃ m, m = max (t + 1) (2 * tL T lv) := ⟨_, rfl⟩
    have e4 := fun M => ma_max (a := t + 1) (b := 2 * tL T lv) M (by omega) (by omega)
    rw [← hm] at e4
    have hm1 : m ≤ 131072 := by omega
    have hm2 : 2 * tL T lv ≤ m ∧ t < m := by omega
    have hml : ¬ m = tL T lv := by omega
    have k1 : tL (alT T 100 m) lv = tL T lv := u1_ne (by omega)
    have k2 : tL (alT T 100 m) (tN T) = m := u1_at rfl
    have k3 : tK (alT T 100 m) lv = 100 := (u1_ne (by omega)).trans r2'
    have k4 : tK (alT T 100 m) (tN T) = 100 := u1_at rfl
    have k5 : tK (alT T 100 m) 18 = 5 := (u1_ne (by omega)).trans h5
    have e5 := fun M => ma_min (a := tL T lv) (b := m) M (by omega) (by omega)
    rw [Nat.min_eq_left (by omega)] at e5
    obtain ⟨I1, hI1⟩ : ∃ I1, I1 = r2 (r2 I (tN T) (fun _ => 0)) (tN T) (va_cpy (r2 I (tN T) (fun _ => 0) lv) (r2 I (tN T) (fun _ => 0) (tN T)) 0 0 (tL T lv)) := ⟨_, rfl⟩
    have e6 : f_ar_copyOf1 lv (nI m) ((I, T) : Mem) = some (some (tN T), ((I1, alT T 100 m) : Mem)) := by
      unfold f_ar_copyOf1
      simp (disch := omega) only [↓gI_t, ↓pI_t, ↓pZ_t, ↓ck_t, ↓aN_t, ↓cI_s, ↓cV_s, ↓cR_s, ↓onR_s, ↓onR_n, ↓nmI_t, ↓reduceIte, gA_t, aI_t, sI_t, aA_t, aB_t, sB_t, rmI_t, dvI_t, nI_add, pk_mul, pk_sub, nI_leI, nI_ltI, nI_eq, n_leT, n_leF, n_ltT, n_ltF, n_eqT, n_eqF, u2_ne, u2_at, u2_nj, r2_ne, r2_at, ↓i_neg1, m1_ne, m1_en, m1_lt, m1_le, m1_nlt, m1_nle, i_lits, true_and, and_true, r2', nA_t, k1, k2, k3, k4, e5, cpA_t]
      rw [hI1]
      simp (disch := omega) only [↓gI_t, ↓pI_t, ↓pZ_t, ↓ck_t, ↓aN_t, ↓cI_s, ↓cV_s, ↓cR_s, ↓onR_s, ↓onR_n, ↓nmI_t, ↓reduceIte, gA_t, aI_t, sI_t, aA_t, aB_t, sB_t, rmI_t, dvI_t, nI_add, pk_mul, pk_sub, nI_leI, nI_ltI, nI_eq, n_leT, n_leF, n_ltT, n_ltF, n_eqT, n_eqF, u2_ne, u2_at, u2_nj, r2_ne, r2_at, ↓i_neg1, m1_ne, m1_en, m1_lt, m1_le, m1_nlt, m1_nle, i_lits, true_and, and_true]
    have hrow : ∀ x, x < m → I1 (tN T) x = nI (dT D x) := fun x hx => by
      rw [hI1, r2_at rfl]
      unfold va_cpy
      by_cases hy : x < tL T lv
      · rw [if_pos (by omega), r2_ne (by omega), show 0 + (x - 0) = x by omega]
        exact r9 x hy
      · rw [if_neg (by omega), r2_at rfl, r10 x (by omega)]
        rfl
    have hoth : ∀ a, a ≠ tN T → I1 a = I a := fun a ha => by rw [hI1, r2_ne ha, r2_ne ha]
    have q1 : tR (seR (alT T 100 m) 18 0 (tN T)) 18 0 = some (tN T) := by
      show u2 (tR (alT T 100 m)) 18 0 (some (tN T)) 18 0 = _
      exact u2_at rfl rfl
    have e7 := note44 (T := seR (alT T 100 m) 18 0 (tN T)) (I := I1) (lv := tN T) (t := t) (m := dM D) (u := dU D) k5 q1 k4 (by show t < tL (alT T 100 m) (tN T); rw [k2]; omega) (by omega) (by omega) (dT D t) (hrow t (by omega)) (by rw [hoth 18 (by omega)]; exact r7) (by rw [hoth 18 (by omega)]; exact r8)
    refine ⟨u2 (u2 (u2 I1 (tN T) t (nI (dT D t + 1))) 18 1 (nI (dM D + 1))) 18 2 (dU D + nI t), seR (alT T 100 m) 18 0 (tN T), ?_, ⟨tN T, q1, k4, Or.inr hn, Nat.lt_succ_self _, ?_, ?_, ?_, ?_, fun x hx => ?_, fun x hx => ?_⟩, ?_, fun a ha h18 hlv => ?_⟩
    · simp (disch := omega) only [↓gI_t, ↓pI_t, ↓pZ_t, ↓ck_t, ↓aN_t, ↓cI_s, ↓cV_s, ↓cR_s, ↓onR_s, ↓onR_n, ↓nmI_t, ↓reduceIte, gA_t, aI_t, sI_t, aA_t, aB_t, sB_t, rmI_t, dvI_t, nI_add, pk_mul, pk_sub, nI_leI, nI_ltI, nI_eq, n_leT, n_leF, n_ltT, n_ltF, n_eqT, n_eqF, u2_ne, u2_at, u2_nj, r2_ne, r2_at, ↓i_neg1, m1_ne, m1_en, m1_lt, m1_le, m1_nlt, m1_nle, i_lits, true_and, and_true, e1, e2, h5, r1, r2', e4, e6, pR_t, k5]
      exact e7
    · show 64 ≤ tL (alT T 100 m) (tN T)
      rw [k2]; omega
    · show tL (alT T 100 m) (tN T) ≤ _
      rw [k2]; exact hm1
    · simp only [gs_U, gs_M, gs_T]
      simp (disch := omega) only [↓gI_t, ↓pI_t, ↓pZ_t, ↓ck_t, ↓aN_t, ↓cI_s, ↓cV_s, ↓cR_s, ↓onR_s, ↓onR_n, ↓nmI_t, ↓reduceIte, gA_t, aI_t, sI_t, aA_t, aB_t, sB_t, rmI_t, dvI_t, nI_add, pk_mul, pk_sub, nI_leI, nI_ltI, nI_eq, n_leT, n_leF, n_ltT, n_ltF, n_eqT, n_eqF, u2_ne, u2_at, u2_nj, r2_ne, r2_at, ↓i_neg1, m1_ne, m1_en, m1_lt, m1_le, m1_nlt, m1_nle, i_lits, true_and, and_true]
    · simp only [gs_U, gs_M, gs_T]
      simp (disch := omega) only [↓gI_t, ↓pI_t, ↓pZ_t, ↓ck_t, ↓aN_t, ↓cI_s, ↓cV_s, ↓cR_s, ↓onR_s, ↓onR_n, ↓nmI_t, ↓reduceIte, gA_t, aI_t, sI_t, aA_t, aB_t, sB_t, rmI_t, dvI_t, nI_add, pk_mul, pk_sub, nI_leI, nI_ltI, nI_eq, n_leT, n_leF, n_ltT, n_ltF, n_eqT, n_eqF, u2_ne, u2_at, u2_nj, r2_ne, r2_at, ↓i_neg1, m1_ne, m1_en, m1_lt, m1_le, m1_nlt, m1_nle, i_lits, true_and, and_true]
    · have hx' : x < m := by
        have : tL (seR (alT T 100 m) 18 0 (tN T)) (tN T) = m := k2
        omega
      simp only [gs_U, gs_M, gs_T]
      by_cases hy : x = t
      · rw [hy, upw_eq]
        simp (disch := omega) only [↓gI_t, ↓pI_t, ↓pZ_t, ↓ck_t, ↓aN_t, ↓cI_s, ↓cV_s, ↓cR_s, ↓onR_s, ↓onR_n, ↓nmI_t, ↓reduceIte, gA_t, aI_t, sI_t, aA_t, aB_t, sB_t, rmI_t, dvI_t, nI_add, pk_mul, pk_sub, nI_leI, nI_ltI, nI_eq, n_leT, n_leF, n_ltT, n_ltF, n_eqT, n_eqF, u2_ne, u2_at, u2_nj, r2_ne, r2_at, ↓i_neg1, m1_ne, m1_en, m1_lt, m1_le, m1_nlt, m1_nle, i_lits, true_and, and_true]
      · rw [upw_ne hy]
        simp (disch := omega) only [↓gI_t, ↓pI_t, ↓pZ_t, ↓ck_t, ↓aN_t, ↓cI_s, ↓cV_s, ↓cR_s, ↓onR_s, ↓onR_n, ↓nmI_t, ↓reduceIte, gA_t, aI_t, sI_t, aA_t, aB_t, sB_t, rmI_t, dvI_t, nI_add, pk_mul, pk_sub, nI_leI, nI_ltI, nI_eq, n_leT, n_leF, n_ltT, n_ltF, n_eqT, n_eqF, u2_ne, u2_at, u2_nj, r2_ne, r2_at, ↓i_neg1, m1_ne, m1_en, m1_lt, m1_le, m1_nlt, m1_nle, i_lits, true_and, and_true, hrow x hx']
    · have hx' : m ≤ x := by
        have : tL (seR (alT T 100 m) 18 0 (tN T)) (tN T) = m := k2
        omega
      simp only [gs_U, gs_M, gs_T]
      rw [upw_ne (by omega)]
      exact r10 x (by omega)
    · refine ⟨fun a ha => ⟨u1_ne (by omega), u1_ne (by omega)⟩, fun a j ha hx => ?_, Nat.le_succ _, rfl, fun a ha => r2_ne (by omega), fun hR => ?_, fun b hb => ?_⟩
      · show u2 (r2 (tR T) (tN T) (fun _ => none)) 18 0 (some (tN T)) a j = _
        by_cases h18 : a = 18
        · rw [u2_nj h18 (by omega), r2_ne (by omega)]
        · rw [u2_ne h18, r2_ne (by omega)]
      · obtain ⟨lv', tv, wv, s1, s2, s3, s4, s5, s6, s7⟩ := hR
        rw [r1] at s1
        cases s1
        refine ⟨tN T, tv, wv, q1, ?_, ?_, ?_, ?_, Nat.lt_succ_of_lt s6, Nat.lt_succ_of_lt s7⟩
        · show u2 (r2 (tR T) (tN T) (fun _ => none)) 18 0 (some (tN T)) 1 0 = _
          rw [u2_ne (by omega), r2_ne (by omega)]; exact s2
        · show u2 (r2 (tR T) (tN T) (fun _ => none)) 18 0 (some (tN T)) 3 0 = _
          rw [u2_ne (by omega), r2_ne (by omega)]; exact s3
        · show tN T + 1 ≤ 560 + tL (alT T 100 m) (tN T) + tL (alT T 100 m) tv + tL (alT T 100 m) wv
          rw [k2, show tL (alT T 100 m) tv = tL T tv from u1_ne (by omega), show tL (alT T 100 m) wv = tL T wv from u1_ne (by omega)]
          omega
        · show tS T + m ≤ 60000 + 2 * (tL (alT T 100 m) (tN T) + tL (alT T 100 m) tv + tL (alT T 100 m) wv)
          rw [k2, show tL (alT T 100 m) tv = tL T tv from u1_ne (by omega), show tL (alT T 100 m) wv = tL T wv from u1_ne (by omega)]
          omega
      · rw [q1] at hb
        cases hb
        exact Or.inr (Nat.le_refl _)
    · have : a ≠ lv := fun z => hlv (by rw [z]; exact r1)
      simp (disch := omega) only [↓gI_t, ↓pI_t, ↓pZ_t, ↓ck_t, ↓aN_t, ↓cI_s, ↓cV_s, ↓cR_s, ↓onR_s, ↓onR_n, ↓nmI_t, ↓reduceIte, gA_t, aI_t, sI_t, aA_t, aB_t, sB_t, rmI_t, dvI_t, nI_add, pk_mul, pk_sub, nI_leI, nI_ltI, nI_eq, n_leT, n_leF, n_ltT, n_ltF, n_eqT, n_eqF, u2_ne, u2_at, u2_nj, r2_ne, r2_at, ↓i_neg1, m1_ne, m1_en, m1_lt, m1_le, m1_nlt, m1_nle, i_lits, true_and, and_true, hoth]
end
