/-! THE REFERENCE: small words; sending -/
theorem m_spot (a b : Nat) (M : Mem) : f_m_spot (nI a) (nI b) M = some (nI (spt a b), M) := by
  unfold f_m_spot spt
  simp only [i_lits, pk_mul, nI_add]
theorem m_line (a b c : Nat) (M : Mem) : f_m_line (nI a) (nI b) (nI c) M = some (nI (lin a b c), M) := by
  have e : 3 * (3 * a + b) + c = lin a b c := by unfold lin; omega
  unfold f_m_line
  simp only [i_lits, pk_mul, nI_add, e]
section
variable {T : Tl} {I I' : Iw} {E : Env} {D : Dy} {Q : Slow} {o i j s c r tk : Nat}
theorem m_sink (sh : shM T) (h : I 492 2 = nI (eN E)) : f_m_sink 492 ((I, T) : Mem) = some (nI (eN E + 1), ((I, T) : Mem)) := by
  unfold f_m_sink
  simp (disch := omega) only [↓sh.gI, ↓sh.pI, ↓sh.ck, ↓cI_s, ↓cV_s, ↓nmI_t, ↓reduceIte, rmI_t, dvI_t, nI_add, pk_mul, pk_sub, nI_leI, nI_ltI, nI_eq, n_leT, n_leF, n_ltT, n_ltF, n_eqT, n_eqF, u2_ne, u2_at, u2_nj, ↓i_neg1, m1_ne, m1_en, m1_lt, m1_le, m1_nlt, m1_nle, i_lits, true_and, and_true, h]
theorem m_isKeyed {kind : Nat} (sh : shM T) (ho : o < 6) (h : I 494 o = nI kind) (h8 : kind ≤ 8) : f_m_isKeyed 492 (nI o) ((I, T) : Mem) = some (nI (b01 (kyd kind)), ((I, T) : Mem)) := by
  unfold f_m_isKeyed
  rcases (by omega : kind = 0 ∨ kind = 1 ∨ kind = 2 ∨ kind = 3 ∨ kind = 4 ∨ kind = 5 ∨ kind = 6 ∨ kind = 7 ∨ kind = 8) with rfl | rfl | rfl | rfl | rfl | rfl | rfl | rfl | rfl <;> (simp (disch := omega) only [↓sh.gI, ↓sh.pI, ↓sh.ck, ↓cI_s, ↓cV_s, ↓nmI_t, ↓reduceIte, rmI_t, dvI_t, nI_add, pk_mul, pk_sub, nI_leI, nI_ltI, nI_eq, n_leT, n_leF, n_ltT, n_ltF, n_eqT, n_eqF, u2_ne, u2_at, u2_nj, ↓i_neg1, m1_ne, m1_en, m1_lt, m1_le, m1_nlt, m1_nle, i_lits, true_and, and_true, ↓sh.g3, sh.a494, sh.s494, h]; rfl)
theorem m_home {p : Nat} (sh : shM T) (ho : o < 6) (h : I 497 o = nI p) (hp : p ≤ 3) (k : Fin 16) : f_m_home 492 (nI o) (kv k) ((I, T) : Mem) = some (nI (home p k), ((I, T) : Mem)) := by
  have hk := k.isLt
  have h7 : k.val % 8 < 8 := Nat.mod_lt _ (by omega)
  have hm : k.val % 8 * p ≤ 7 * 3 := Nat.mul_le_mul (by omega) hp
  unfold f_m_home kv home
  simp (disch := omega) only [↓sh.gI, ↓sh.pI, ↓sh.ck, ↓cI_s, ↓cV_s, ↓nmI_t, ↓reduceIte, rmI_t, dvI_t, nI_add, pk_mul, pk_sub, nI_leI, nI_ltI, nI_eq, n_leT, n_leF, n_ltT, n_ltF, n_eqT, n_eqF, u2_ne, u2_at, u2_nj, ↓i_neg1, m1_ne, m1_en, m1_lt, m1_le, m1_nlt, m1_nle, i_lits, true_and, and_true, ↓sh.g6, sh.a497, sh.s497, h]
theorem CoM.op (h : CoM I E) (ho : o ≤ eN E + 1) : I 494 o = nI (eK E o) ∧ I 495 o = eA E o ∧ I 496 o = eB E o ∧ I 497 o = nI (eP E o) := h.2.2.2.2.2.2.1 o ho
theorem spt18 (hE : okE E) (hs : vS E o i) : spt o i < 18 := by
  have := hs.i3 hE; have := hs.1; have := hE.1; unfold spt; omega
theorem m_goal (sh : shM T) (hE : okE E) (hC : CoM I E) (hN : I 513 (spt o i) = nI (dN D (spt o i))) (hN2 : dN D (spt o i) < 2 ^ 31) (hs : vS E o i) (ho : o ≤ eN E) (k : Fin 16) : f_m_goal 492 (nI o) (nI i) (kv k) ((I, T) : Mem) = some (nI (goal E D o i k), ((I, T) : Mem)) := by
  have n4 := hE.1
  obtain ⟨c1, -, -, c4⟩ := hC.op (o := o + 1) (by omega)
  have p1 := hE.p1 (o := o + 1) (by omega)
  have p3 := hE.p3 (o := o + 1) (by omega)
  have e1 := m_isKeyed (T := T) sh (by omega) c1 (kind_le hE (by omega))
  have e2 := m_home (T := T) sh (by omega) c4 p3 k
  have s18 := spt18 hE hs
  have e3 := fun M => m_spot o i M
  unfold f_m_goal goal
  cases hky : kyd (eK E (o + 1)) with
  | true =>
    rw [hky] at e1
    simp (disch := omega) only [↓sh.gI, ↓sh.pI, ↓sh.ck, ↓cI_s, ↓cV_s, ↓nmI_t, ↓reduceIte, rmI_t, dvI_t, nI_add, pk_mul, pk_sub, nI_leI, nI_ltI, nI_eq, n_leT, n_leF, n_ltT, n_ltF, n_eqT, n_eqF, u2_ne, u2_at, u2_nj, ↓i_neg1, m1_ne, m1_en, m1_lt, m1_le, m1_nlt, m1_nle, i_lits, true_and, and_true, ↓sh.g6, ↓sh.g33, sh.a497, sh.a513, sh.s497, sh.s513, e1, e2, e3, b01]
  | false =>
    rw [hky] at e1
    simp (disch := omega) only [↓sh.gI, ↓sh.pI, ↓sh.ck, ↓cI_s, ↓cV_s, ↓nmI_t, ↓reduceIte, rmI_t, dvI_t, nI_add, pk_mul, pk_sub, nI_leI, nI_ltI, nI_eq, n_leT, n_leF, n_ltT, n_ltF, n_eqT, n_eqF, u2_ne, u2_at, u2_nj, ↓i_neg1, m1_ne, m1_en, m1_lt, m1_le, m1_nlt, m1_nle, i_lits, true_and, and_true, ↓sh.g6, ↓sh.g33, sh.a497, sh.a513, sh.s497, sh.s513, e1, e2, e3, b01, Bool.false_eq_true, hN, c4]
theorem refusM_loop (sh : shM T) (hE : okE E) (hC : CoM I E) (hH : ChsM I D) (hI : InvC E D) (ho : o ≤ eN E) (hi : i < eP E o) : ∀ (d n j : Nat), j + d = eP E (o + 1) → d < n → f_m_refusing_2 n 492 (nI o) (nI i) (nI j) ((I, T) : Mem) = some (oI (ff (fun j => !tkB (eC E) (dC D (lin o i j))) j d), ((I, T) : Mem))
  | d, 0, j, _, hn => by omega
  | 0, n + 1, j, hj, hn => by
    have n4 := hE.1
    have p3 := hE.p3 (o := o + 1) (by omega)
    obtain ⟨-, -, -, c4⟩ := hC.op (o := o + 1) (by omega)
    unfold f_m_refusing_2 ff
    simp (disch := omega) only [↓sh.gI, ↓sh.pI, ↓sh.ck, ↓cI_s, ↓cV_s, ↓nmI_t, ↓reduceIte, rmI_t, dvI_t, nI_add, pk_mul, pk_sub, nI_leI, nI_ltI, nI_eq, n_leT, n_leF, n_ltT, n_ltF, n_eqT, n_eqF, u2_ne, u2_at, u2_nj, ↓i_neg1, m1_ne, m1_en, m1_lt, m1_le, m1_nlt, m1_nle, i_lits, true_and, and_true, ↓sh.g6, sh.a497, sh.s497, c4]
    rfl
  | d + 1, n + 1, j, hj, hn => by
    have n4 := hE.1
    have p3 := hE.p3 (o := o + 1) (by omega)
    have v : vC E o i j := ⟨ho, hi, by omega⟩
    have hl := lin45 hE v
    obtain ⟨-, -, -, c4⟩ := hC.op (o := o + 1) (by omega)
    have e2 := fun M => m_line o i j M
    have e3 := m_takesBarrier (T := T) sh hC.2.2.2.1 (hH (lin o i j) (by omega)) (by omega) hE.2.2.2.2.2.2.2.1.2 hE.2.2.2.2.2.2.2.2.2.1.2 (hI _ _ _ v).1
    have ih := refusM_loop sh hE hC hH hI ho hi d n (j + 1) (by omega) (by omega)
    unfold f_m_refusing_2 ff
    cases ht : tkB (eC E) (dC D (lin o i j)) with
    | true =>
      rw [ht] at e3
      simp (disch := omega) only [↓sh.gI, ↓sh.pI, ↓sh.ck, ↓cI_s, ↓cV_s, ↓nmI_t, ↓reduceIte, rmI_t, dvI_t, nI_add, pk_mul, pk_sub, nI_leI, nI_ltI, nI_eq, n_leT, n_leF, n_ltT, n_ltF, n_eqT, n_eqF, u2_ne, u2_at, u2_nj, ↓i_neg1, m1_ne, m1_en, m1_lt, m1_le, m1_nlt, m1_nle, i_lits, true_and, and_true, ↓sh.g6, sh.a497, sh.s497, c4, e2, e3, b01, ih, Bool.not_true, Bool.false_eq_true]
    | false =>
      rw [ht] at e3
      simp (disch := omega) only [↓sh.gI, ↓sh.pI, ↓sh.ck, ↓cI_s, ↓cV_s, ↓nmI_t, ↓reduceIte, rmI_t, dvI_t, nI_add, pk_mul, pk_sub, nI_leI, nI_ltI, nI_eq, n_leT, n_leF, n_ltT, n_ltF, n_eqT, n_eqF, u2_ne, u2_at, u2_nj, ↓i_neg1, m1_ne, m1_en, m1_lt, m1_le, m1_nlt, m1_nle, i_lits, true_and, and_true, ↓sh.g6, sh.a497, sh.s497, c4, e2, e3, b01, Bool.not_false, Bool.false_eq_true]
      rfl
theorem m_refus (sh : shM T) (hE : okE E) (hC : CoM I E) (hH : ChsM I D) (hI : InvC E D) (ho : o ≤ eN E) (hi : i < eP E o) : f_m_refusing 492 (nI o) (nI i) ((I, T) : Mem) = some (oI (refus E D o i), ((I, T) : Mem)) := by
  unfold f_m_refusing refus
  rw [ff_range]
  have := refusM_loop (T := T) sh hE hC hH hI ho hi (eP E (o + 1)) FU 0 (by omega) (by have := hE.p3 (o := o + 1) (by omega); unfold FU; omega)
  simp only [i_lits]
  exact this
theorem ch44 (hE : okE E) (hI : Inv E D) : ∀ x, x < 54 → (dC D x).1.length ≤ 4 ∧ (dC D x).2.1.length ≤ 4 := fun x _ => by
  have s4 := hE.2.2.2.2.2.2.2.1.2
  have c4 := hE.2.2.2.2.2.2.2.2.2.1.2
  by_cases hz : ∃ o i j, vC E o i j ∧ x = lin o i j
  · obtain ⟨o, i, j, v, rfl⟩ := hz
    have h := (hI.1 _ _ _ v).1
    exact ⟨by have := h.1; omega, by have := h.2.1; omega⟩
  · have h := hI.2.1 x (fun o i j v e => hz ⟨o, i, j, v, e⟩)
    rw [h.1, h.2]
    exact ⟨Nat.zero_le _, Nat.zero_le _⟩
theorem li3 (hE : okE E) (hI : Inv E D) : ∀ x, x < 18 → (dL D x).length ≤ 3 := fun x _ => by
  by_cases hz : ∃ o i, o ≤ eN E ∧ i < eP E o ∧ x = spt o i
  · obtain ⟨o, i, h1, h2, rfl⟩ := hz
    exact (hI.2.2.1 o i ⟨by omega, h2⟩).1
  · have h := hI.2.2.2.1 x (fun o i h1 h2 e => hz ⟨o, i, h1, h2, e⟩)
    rw [h.1]
    exact Nat.zero_le _
-- the list moves one place
def shL (I : Iw) (s m : Nat) : Iw := fun a x => if (a = 517 ∨ a = 518 ∨ a = 519) ∧ 3 * s ≤ x ∧ x < 3 * s + m then I a (x + 1) else I a x
theorem shL_0 : shL I s 0 = I := by
  funext a x
  unfold shL
  rw [if_neg (by omega)]
theorem shL_ne {m a : Nat} (h : a ≠ 517 ∧ a ≠ 518 ∧ a ≠ 519) : shL I s m a = I a := by
  funext x
  unfold shL
  rw [if_neg (by omega)]
theorem shL_r {m x a : Nat} (ha : a = 517 ∨ a = 518 ∨ a = 519) (h : 3 * s ≤ x) (h2 : x < 3 * s + m) : shL I s m a x = I a (x + 1) := by
  unfold shL
  rw [if_pos ⟨ha, h, h2⟩]
theorem shL_n {m x a : Nat} (h : x < 3 * s ∨ 3 * s + m ≤ x) : shL I s m a x = I a x := by
  unfold shL
  rw [if_neg (by omega)]
theorem shL_m {m : Nat} : u2 (u2 (u2 (shL I s m) 517 (3 * s + m) (I 517 (3 * s + m + 1))) 518 (3 * s + m) (I 518 (3 * s + m + 1))) 519 (3 * s + m) (I 519 (3 * s + m + 1)) = shL I s (m + 1) := by
  funext a x
  by_cases ha : a = 517 ∨ a = 518 ∨ a = 519
  · have key : ∀ b, b = 517 ∨ b = 518 ∨ b = 519 → (if x = 3 * s + m then I b (3 * s + m + 1) else shL I s m b x) = shL I s (m + 1) b x := fun b hb => by
      by_cases hx : x = 3 * s + m
      · rw [if_pos hx, shL_r hb (by omega) (by omega), hx]
      · rw [if_neg hx]
        by_cases hy : 3 * s ≤ x ∧ x < 3 * s + m
        · rw [shL_r hb hy.1 hy.2, shL_r hb hy.1 (by omega)]
        · rw [shL_n (by omega), shL_n (by omega)]
    rw [← key a ha]
    by_cases hx : x = 3 * s + m
    · subst hx
      rw [if_pos rfl]
      rcases ha with rfl | rfl | rfl
      · rw [u2_ne (by omega), u2_ne (by omega), u2_at rfl rfl]
      · rw [u2_ne (by omega), u2_at rfl rfl]
      · rw [u2_at rfl rfl]
    · rw [if_neg hx]
      rcases ha with rfl | rfl | rfl
      · rw [u2_ne (by omega), u2_ne (by omega), u2_nj rfl hx]
      · rw [u2_ne (by omega), u2_nj rfl hx, u2_ne (by omega)]
      · rw [u2_nj rfl hx, u2_ne (by omega), u2_ne (by omega)]
  · rw [u2_ne (by omega), u2_ne (by omega), u2_ne (by omega)]
    unfold shL
    rw [if_neg (fun (z : (a = 517 ∨ a = 518 ∨ a = 519) ∧ 3 * s ≤ x ∧ x < 3 * s + m) => ha z.1), if_neg (fun (z : (a = 517 ∨ a = 518 ∨ a = 519) ∧ 3 * s ≤ x ∧ x < 3 * s + (m + 1)) => ha z.1)]
theorem sends_sh (sh : shM T) (hs : s < 18) (len : Nat) (hl : len ≤ 2) (h1 : I 516 s = nI len) (kont : Nat → Int32 → Int32 → Int32 → Mem → Option (Int32 × Mem)) (l1 l2 : Int32) : ∀ (d n m : Nat), m + d = len → d < n → f_m_sends_112 kont n 492 l1 l2 (nI s) (nI m) ((shL I s m, T) : Mem) = kont 492 l1 l2 (nI s) ((shL I s len, T) : Mem)
  | d, 0, m, _, hn => by omega
  | 0, n + 1, m, hm, hn => by
    have : m = len := by omega
    subst this
    have e1 : shL I s m 516 = I 516 := shL_ne (by omega)
    unfold f_m_sends_112
    simp (disch := omega) only [↓sh.gI, ↓sh.pI, ↓sh.ck, ↓cI_s, ↓cV_s, ↓nmI_t, ↓reduceIte, rmI_t, dvI_t, nI_add, pk_mul, pk_sub, nI_leI, nI_ltI, nI_eq, n_leT, n_leF, n_ltT, n_ltF, n_eqT, n_eqF, u2_ne, u2_at, u2_nj, ↓i_neg1, m1_ne, m1_en, m1_lt, m1_le, m1_nlt, m1_nle, i_lits, true_and, and_true, ↓sh.g39, ↓sh.g40, ↓sh.g41, ↓sh.g42, sh.a516, sh.a517, sh.a518, sh.a519, sh.s516, sh.s517, sh.s518, sh.s519, e1, h1]
  | d + 1, n + 1, m, hm, hn => by
    have e := sends_sh sh hs len hl h1 kont l1 l2 d n (m + 1) (by omega) (by omega)
    have e1 : shL I s m 516 = I 516 := shL_ne (by omega)
    have e2 : ∀ a, shL I s m a (3 * s + m + 1) = I a (3 * s + m + 1) := fun a => shL_n (by omega)
    have e3 := shL_m (I := I) (s := s) (m := m)
    unfold f_m_sends_112
    simp (disch := omega) only [↓sh.gI, ↓sh.pI, ↓sh.ck, ↓cI_s, ↓cV_s, ↓nmI_t, ↓reduceIte, rmI_t, dvI_t, nI_add, pk_mul, pk_sub, nI_leI, nI_ltI, nI_eq, n_leT, n_leF, n_ltT, n_ltF, n_eqT, n_eqF, u2_ne, u2_at, u2_nj, ↓i_neg1, m1_ne, m1_en, m1_lt, m1_le, m1_nlt, m1_nle, i_lits, true_and, and_true, ↓sh.g39, ↓sh.g40, ↓sh.g41, ↓sh.g42, sh.a516, sh.a517, sh.a518, sh.a519, sh.s516, sh.s517, sh.s518, sh.s519, e1, h1, e2, e3, e]
end
