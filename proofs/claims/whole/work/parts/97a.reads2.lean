/-! CALLS: operator, instance, channel, state, savedState -/
section
variable {T T' : Tl} {I I' : Iw} {E E' : Env} {D D' : Dy} {Q Q' : Slow} {S : Sy} {g g' : Nat → Kst} {o i j s c r tk k m : Nat}
theorem inI_no {b : Nat} {p : Int32} (hb : b < 2 ^ 31) (hp : inI p 0 (nI b) = false) (N : Nat) (h9 : N ≤ b) : p ≠ nI N := fun e => by
  have : inI (nI N) 0 (nI b) = true := by
    unfold inI
    rw [decide_eq_false (show ¬ nI N < (0 : Int32) from fun z => by have := (nI_ltI (b := 0) (by omega) (by omega)).mp z; omega), decide_eq_false (show ¬ nI b < nI N from fun z => by have := (nI_ltI (by omega) (by omega)).mp z; omega)]
    rfl
  rw [e, this] at hp
  cases hp
theorem i7 {p : Int32} (hp : inI p 0 7 = false) (N : Nat) (h : N ≤ 7) : p ≠ nI N := inI_no (b := 7) (by omega) hp N h
theorem i5 {p : Int32} (hp : inI p 0 5 = false) (N : Nat) (h : N ≤ 5) : p ≠ nI N := inI_no (b := 5) (by omega) hp N h
theorem i4 {p : Int32} (hp : inI p 0 4 = false) (N : Nat) (h : N ≤ 4) : p ≠ nI N := inI_no (b := 4) (by omega) hp N h
theorem rd_operator (hC : SC S I T) (sh : shM T) (hM : SM S I T) (h : PD S k) (p q : Int32) : ∃ v, f_x_operator 0 p q ((I, T) : Mem) = some (v, ((I, T) : Mem)) ∧ f_m_operator 492 p q ((I, T) : Mem) = some (v, ((I, T) : Mem)) := by
  obtain ⟨shs, shx, h550, -, -, ⟨g, hCT⟩, -⟩ := hC
  have hE := h.1.1
  have n4 := hE.1
  obtain ⟨x0, -, -, -, x3, -⟩ := shx
  have ksm := shs.1
  obtain ⟨q1, q2, q3, q4, q5, q6, q7, q8, v1, v2, v3, v4, v5, v6, v7, v8⟩ := hM.1
  unfold f_x_operator f_m_operator
  rw [gA_t x0, x3, onR_s, ck_t ksm, sm_opI shs hCT.1 n4, cR_x, sh.ck, m_isOp sh q1, cI_x, b01_cs]
  cases hp : opOk (yE S) p with
  | false => exact ⟨-1000000001, rfl, rfl⟩
  | true =>
    obtain ⟨o, ho, rfl⟩ := opOk_t n4 hp
    rw [nI_clamp (by omega), if_pos rfl, onR_s, if_pos rfl, m_isIn, cI_x, b01_cs]
    have k1 := (shs.op (o := o) (by omega)).1
    obtain ⟨c1, c2, c3, c4⟩ := hCT.1.2.2.2 o ho
    obtain ⟨d1, d2, d3, d4⟩ := q1.op ho
    obtain ⟨s1, s2, s3, s4⟩ := hCT.2.2.2.2.2.2.1 o (by omega)
    obtain ⟨t1, t2, t3, t4⟩ := q5 o (by omega)
    cases hq : inI q 0 7 with
    | false =>
      refine ⟨-1000000002, ?_, rfl⟩
      rw [if_neg (show ¬ q = (0 : Int32) from i7 hq 0 (by omega)), if_neg (show ¬ q = (1 : Int32) from i7 hq 1 (by omega)), if_neg (show ¬ q = (2 : Int32) from i7 hq 2 (by omega)), if_neg (show ¬ q = (3 : Int32) from i7 hq 3 (by omega)), if_neg (show ¬ q = (4 : Int32) from i7 hq 4 (by omega)), if_neg (show ¬ q = (5 : Int32) from i7 hq 5 (by omega)), if_neg (show ¬ q = (6 : Int32) from i7 hq 6 (by omega)), if_neg (show ¬ q = (7 : Int32) from i7 hq 7 (by omega))]
    | true =>
      obtain ⟨N, -, h9, rfl⟩ := inI_rng (a := 0) (b := 7) (by omega) (by omega) hq
      rw [if_pos rfl]
      rcases (by omega : N = 0 ∨ N = 1 ∨ N = 2 ∨ N = 3 ∨ N = 4 ∨ N = 5 ∨ N = 6 ∨ N = 7) with rfl | rfl | rfl | rfl | rfl | rfl | rfl | rfl
      · refine ⟨nI (eK (yE S) o), ?_, ?_⟩
        · rw [if_pos (show nI 0 = (0 : Int32) by decide), gI_t k1, c1]
        · rw [if_pos (show nI 0 = (0 : Int32) by decide), sh.g3, sh.a494 (by omega), d1]
      · refine ⟨nI (eP (yE S) o), ?_, ?_⟩
        · rw [if_neg (show ¬ nI 1 = (0 : Int32) by decide), if_pos (show nI 1 = (1 : Int32) by decide), gI_t k1, c4]
        · rw [if_neg (show ¬ nI 1 = (0 : Int32) by decide), if_pos (show nI 1 = (1 : Int32) by decide), sh.g6, sh.a497 (by omega), d4]
      · refine ⟨eA (yE S) o, ?_, ?_⟩
        · rw [if_neg (show ¬ nI 2 = (0 : Int32) by decide), if_neg (show ¬ nI 2 = (1 : Int32) by decide), if_pos (show nI 2 = (2 : Int32) by decide), gI_t k1, c2]
        · rw [if_neg (show ¬ nI 2 = (0 : Int32) by decide), if_neg (show ¬ nI 2 = (1 : Int32) by decide), if_pos (show nI 2 = (2 : Int32) by decide), sh.g4, sh.a495 (by omega), d2]
      · refine ⟨eB (yE S) o, ?_, ?_⟩
        · rw [if_neg (show ¬ nI 3 = (0 : Int32) by decide), if_neg (show ¬ nI 3 = (1 : Int32) by decide), if_neg (show ¬ nI 3 = (2 : Int32) by decide), if_pos (show nI 3 = (3 : Int32) by decide), gI_t k1, c3]
        · rw [if_neg (show ¬ nI 3 = (0 : Int32) by decide), if_neg (show ¬ nI 3 = (1 : Int32) by decide), if_neg (show ¬ nI 3 = (2 : Int32) by decide), if_pos (show nI 3 = (3 : Int32) by decide), sh.g5, sh.a496 (by omega), d3]
      · refine ⟨dX (yD S) o, ?_, ?_⟩
        · rw [if_neg (show ¬ nI 4 = (0 : Int32) by decide), if_neg (show ¬ nI 4 = (1 : Int32) by decide), if_neg (show ¬ nI 4 = (2 : Int32) by decide), if_neg (show ¬ nI 4 = (3 : Int32) by decide), if_pos (show nI 4 = (4 : Int32) by decide), gI_t k1, s1]
        · rw [if_neg (show ¬ nI 4 = (0 : Int32) by decide), if_neg (show ¬ nI 4 = (1 : Int32) by decide), if_neg (show ¬ nI 4 = (2 : Int32) by decide), if_neg (show ¬ nI 4 = (3 : Int32) by decide), if_pos (show nI 4 = (4 : Int32) by decide), sh.g20, sh.a500 (by omega), t1]
      · refine ⟨dY (yD S) o, ?_, ?_⟩
        · rw [if_neg (show ¬ nI 5 = (0 : Int32) by decide), if_neg (show ¬ nI 5 = (1 : Int32) by decide), if_neg (show ¬ nI 5 = (2 : Int32) by decide), if_neg (show ¬ nI 5 = (3 : Int32) by decide), if_neg (show ¬ nI 5 = (4 : Int32) by decide), if_pos (show nI 5 = (5 : Int32) by decide), gI_t k1, s2]
        · rw [if_neg (show ¬ nI 5 = (0 : Int32) by decide), if_neg (show ¬ nI 5 = (1 : Int32) by decide), if_neg (show ¬ nI 5 = (2 : Int32) by decide), if_neg (show ¬ nI 5 = (3 : Int32) by decide), if_neg (show ¬ nI 5 = (4 : Int32) by decide), if_pos (show nI 5 = (5 : Int32) by decide), sh.g21, sh.a501 (by omega), t2]
      · refine ⟨dB (yD S) o, ?_, ?_⟩
        · rw [if_neg (show ¬ nI 6 = (0 : Int32) by decide), if_neg (show ¬ nI 6 = (1 : Int32) by decide), if_neg (show ¬ nI 6 = (2 : Int32) by decide), if_neg (show ¬ nI 6 = (3 : Int32) by decide), if_neg (show ¬ nI 6 = (4 : Int32) by decide), if_neg (show ¬ nI 6 = (5 : Int32) by decide), if_pos (show nI 6 = (6 : Int32) by decide), gI_t k1, s3]
        · rw [if_neg (show ¬ nI 6 = (0 : Int32) by decide), if_neg (show ¬ nI 6 = (1 : Int32) by decide), if_neg (show ¬ nI 6 = (2 : Int32) by decide), if_neg (show ¬ nI 6 = (3 : Int32) by decide), if_neg (show ¬ nI 6 = (4 : Int32) by decide), if_neg (show ¬ nI 6 = (5 : Int32) by decide), if_pos (show nI 6 = (6 : Int32) by decide), sh.g22, sh.a502 (by omega), t3]
      · refine ⟨dI (yD S) o, ?_, ?_⟩
        · rw [if_neg (show ¬ nI 7 = (0 : Int32) by decide), if_neg (show ¬ nI 7 = (1 : Int32) by decide), if_neg (show ¬ nI 7 = (2 : Int32) by decide), if_neg (show ¬ nI 7 = (3 : Int32) by decide), if_neg (show ¬ nI 7 = (4 : Int32) by decide), if_neg (show ¬ nI 7 = (5 : Int32) by decide), if_neg (show ¬ nI 7 = (6 : Int32) by decide), if_pos (show nI 7 = (7 : Int32) by decide), gI_t k1, s4]
        · rw [if_neg (show ¬ nI 7 = (0 : Int32) by decide), if_neg (show ¬ nI 7 = (1 : Int32) by decide), if_neg (show ¬ nI 7 = (2 : Int32) by decide), if_neg (show ¬ nI 7 = (3 : Int32) by decide), if_neg (show ¬ nI 7 = (4 : Int32) by decide), if_neg (show ¬ nI 7 = (5 : Int32) by decide), if_neg (show ¬ nI 7 = (6 : Int32) by decide), sh.g23, sh.a503 (by omega), t4]
-- instance
theorem sm_inI (shs : shSm T) (hc : CfC I E) (hE : okE E) (p q : Int32) : f_sm_instanceAt 10 p q ((I, T) : Mem) = some (if inOk E p q then some (20 + 33 * p.toNatClampNeg + 18 + 5 * q.toNatClampNeg) else none, ((I, T) : Mem)) := by
  have n4 := hE.1
  have ksm := shs.1
  unfold inOk
  cases hp : opOk E p with
  | false =>
    unfold f_sm_instanceAt
    rw [ck_t ksm, sm_opI shs hc n4, cR_x, hp]
    rfl
  | true =>
    obtain ⟨o, ho, rfl⟩ := opOk_t n4 hp
    rw [nI_clamp (by omega), Bool.true_and]
    have p1 := hE.p1 ho
    have p3 := hE.p3 ho
    cases hq : inI q (nI 0) (nI (eP E o - 1)) with
    | true =>
      obtain ⟨i, -, h2, rfl⟩ := inI_rng (a := 0) (b := eP E o - 1) (by omega) (by omega) hq
      rw [sm_inAt shs hc hE (by omega) (by omega), if_pos ⟨ho, by omega⟩, nI_clamp (by omega)]
      rfl
    | false =>
      by_cases h1 : q < nI 0
      · rw [sm_inNeg shs hc n4 (by omega) h1]
        rfl
      · have h2 : nI (eP E o - 1) < q := by
          unfold inI at hq
          rw [decide_eq_false h1] at hq
          simp only [Bool.not_false, Bool.true_and, Bool.not_eq_false', decide_eq_true_eq] at hq
          exact hq
        have h3 : nI (eP E o) ≤ q := by
          rw [Int32.lt_iff_toInt_lt, nI_toInt (by omega)] at h2
          rw [Int32.le_iff_toInt_le, nI_toInt (by omega)]
          omega
        have e1 := sm_opAt (T := T) (o := o) shs hc n4 (by omega)
        rw [if_pos ho] at e1
        have k1 := (shs.op (o := o) (by omega)).1
        have c4 := (hc.2.2.2 o ho).2.2.2
        unfold f_sm_instanceAt
        rw [ck_t ksm, e1, cR_x, onR_s, if_neg (show ¬ q < (0 : Int32) from h1), gI_t k1, c4, if_pos h3]
        rfl
theorem kof_loop (sh : shSm T) (hE : okE E) (ho : o ≤ eN E + 1) {f : Kst} (hK : KyC I (20 + 33 * o + 2) f) (h9 : I (20 + 33 * o) 9 = nI (eP E o)) (hi : i < 3) : ∀ (d n x a : Nat), x + d = 16 → d < n → f_op_keysOf_4 n (20 + 33 * o) (nI i) (nI a) (nI x) ((I, T) : Mem) = some (nI (a + cntF (ownP f (eP E o) i) x d), ((I, T) : Mem))
  | d, 0, x, a, _, hn => by omega
  | 0, n + 1, x, a, hx, hn => by
    have : x = 16 := by omega
    subst this
    unfold f_op_keysOf_4
    exact if_pos (by decide)
  | d + 1, n + 1, x, a, hx, hn => by
    have n4 := hE.1
    have kop := sh.op (o := o) (by omega)
    have k1 := kop.1
    have kr1 := kop.2.2.2.2.2.1
    have ky := kop.2.2.2.2.2.2.2.2.2.2.1
    have ky1 := ky.1
    have e1 : f_ky_has (20 + 33 * o + 2) (nI x) ((I, T) : Mem) = some (nI (b01 (f (kf x)).isSome), ((I, T) : Mem)) := by
      rw [kv_kf (x := x) (by omega)]
      exact (ky_at ky hK (kf x)).1
    have p3 := hE.p3 ho
    have e2 : f_op_ownerOf (20 + 33 * o) (nI x) (nI (eP E o)) ((I, T) : Mem) = some (nI (home (eP E o) (kf x)), ((I, T) : Mem)) := by
      rw [kv_kf (x := x) (by omega)]
      exact op_owner _ (kf x) p3
    have b1 := home_lt (k := kf x) (hE.p1 ho) p3
    have h16 : ¬ (16 : Int32) ≤ nI x := fun z => by have := (nI_leI (a := 16) (by omega) (by omega)).mp z; omega
    have hP : ownP f (eP E o) i x = ((f (kf x)).isSome && decide (home (eP E o) (kf x) = i)) := rfl
    unfold f_op_keysOf_4 cntF
    rw [hP, if_neg h16, gA_t k1, kr1, onR_s, ck_t ky1, e1, cI_x, b01_cs]
    unfold f_op_keysOf_37
    rw [show nI x + (1 : Int32) = nI (x + 1) from nI_1 _]
    cases hs : (f (kf x)).isSome with
    | false =>
      have ih := kof_loop sh hE ho hK h9 hi d n (x + 1) a (by omega) (by omega)
      rw [if_neg (by decide), ih]
      simp only [Bool.false_and, b01, Bool.false_eq_true, if_false, Nat.zero_add]
    | true =>
      rw [if_pos rfl, gI_t k1, h9, ck_t k1, e2, cI_x]
      by_cases hz : home (eP E o) (kf x) = i
      · have ih := kof_loop sh hE ho hK h9 hi d n (x + 1) (a + 1) (by omega) (by omega)
        rw [decide_eq_true hz, hz, if_pos rfl, show nI a + (1 : Int32) = nI (a + 1) from nI_1 _, ih]
        simp only [Bool.and_true, b01, if_true, Nat.add_assoc]
      · have ih := kof_loop sh hE ho hK h9 hi d n (x + 1) a (by omega) (by omega)
        rw [decide_eq_false hz, if_neg (fun z => hz ((nI_eq (by omega) (by omega)).mp z)), ih]
        simp only [Bool.and_false, b01, Bool.false_eq_true, if_false, Nat.zero_add]
theorem mof_loop (sh : shM T) (hE : okE E) (hc : CoM I E) (ho : o ≤ eN E + 1) {f : Nat → Kst} (hK : KyM I 504 507 510 f) (hk0 : kyd (eK E o) = false → ∀ x, f o x = none) (hi : i < 3) : ∀ (d n x a : Nat), x + d = 16 → d < n → f_m_keysOf_5 n 492 (nI o) (nI i) (nI a) (nI x) ((I, T) : Mem) = some (nI (a + cntF (ownP (f o) (eP E o) i) x d), ((I, T) : Mem))
  | d, 0, x, a, _, hn => by omega
  | 0, n + 1, x, a, hx, hn => by
    have : x = 16 := by omega
    subst this
    unfold f_m_keysOf_5
    exact if_pos (by decide)
  | d + 1, n + 1, x, a, hx, hn => by
    have n4 := hE.1
    obtain ⟨c1, -, -, c4⟩ := hc.op ho
    have e1 := m_isKeyed (T := T) sh (by omega) c1 (kind_le hE ho)
    have hb := (hK o (kf x) (by omega)).1
    rw [kf_val (by omega)] at hb
    have p3 := hE.p3 ho
    have e2 : f_m_home 492 (nI o) (nI x) ((I, T) : Mem) = some (nI (home (eP E o) (kf x)), ((I, T) : Mem)) := by
      rw [kv_kf (x := x) (by omega)]
      exact m_home sh (by omega) c4 p3 (kf x)
    have b1 := home_lt (k := kf x) (hE.p1 ho) p3
    have h16 : ¬ (16 : Int32) ≤ nI x := fun z => by have := (nI_leI (a := 16) (by omega) (by omega)).mp z; omega
    unfold f_m_keysOf_5
    rw [if_neg h16, sh.ck, e1, cI_x, b01_cs]
    cases hky : kyd (eK E o) with
    | false =>
      have hz := hk0 hky
      rw [if_neg (by decide), cntF_z (fun y => by unfold ownP; rw [hz]; rfl)]
      rfl
    | true =>
      rw [if_pos rfl, sh.g24, show (16 : Int32) * nI o + nI x = nI (16 * o + x) by rw [show (16 : Int32) = nI 16 from rfl, pk_mul, nI_add], sh.a504 (by omega), hb, b01_cs]
      have hP : ownP (f o) (eP E o) i x = ((f o (kf x)).isSome && decide (home (eP E o) (kf x) = i)) := rfl
      unfold cntF f_m_keysOf_51 f_m_keysOf_52
      rw [hP, show nI x + (1 : Int32) = nI (x + 1) from nI_1 _]
      cases hs : (f o (kf x)).isSome with
      | false =>
        have ih := mof_loop sh hE hc ho hK hk0 hi d n (x + 1) a (by omega) (by omega)
        rw [if_neg (by decide), show nI a + (0 : Int32) = nI a by rw [show (0 : Int32) = nI 0 from rfl, nI_add, Nat.add_zero], ih]
        simp only [Bool.false_and, b01, Bool.false_eq_true, if_false, Nat.zero_add]
      | true =>
        rw [if_pos rfl, sh.ck, e2, cI_x]
        by_cases hz : home (eP E o) (kf x) = i
        · have ih := mof_loop sh hE hc ho hK hk0 hi d n (x + 1) (a + 1) (by omega) (by omega)
          rw [decide_eq_true hz, hz, if_pos rfl, show nI a + (1 : Int32) = nI (a + 1) from nI_1 _, ih]
          simp only [Bool.and_true, b01, if_true, Nat.add_assoc]
        · have ih := mof_loop sh hE hc ho hK hk0 hi d n (x + 1) a (by omega) (by omega)
          rw [decide_eq_false hz, if_neg (fun z => hz ((nI_eq (by omega) (by omega)).mp z)), show nI a + (0 : Int32) = nI a by rw [show (0 : Int32) = nI 0 from rfl, nI_add, Nat.add_zero], ih]
          simp only [Bool.and_false, b01, Bool.false_eq_true, if_false, Nat.zero_add]
theorem rd_instance (hC : SC S I T) (sh : shM T) (hM : SM S I T) (h : PD S k) (p q w : Int32) : ∃ v, f_x_instance 0 p q w ((I, T) : Mem) = some (v, ((I, T) : Mem)) ∧ f_m_instance 492 p q w ((I, T) : Mem) = some (v, ((I, T) : Mem)) := by
  obtain ⟨shs, shx, h550, -, -, ⟨g, hCT⟩, -⟩ := hC
  have hE := h.1.1
  have n4 := hE.1
  obtain ⟨x0, -, -, -, x3, -⟩ := shx
  have ksm := shs.1
  obtain ⟨q1, q2, q3, q4, q5, q6, q7, q8, v1, v2, v3, v4, v5, v6, v7, v8⟩ := hM.1
  unfold f_x_instance f_m_instance
  rw [gA_t x0, x3, onR_s, ck_t ksm, sm_opI shs hCT.1 n4, cR_x, sh.ck, m_isOp sh q1, cI_x, b01_cs]
  cases hp : opOk (yE S) p with
  | false =>
    refine ⟨-1000000001, ?_, rfl⟩
    rw [if_neg (by decide), onR_n, gA_t x0, x3, onR_s, ck_t ksm, sm_inI shs hCT.1 hE, cR_x]
    unfold inOk
    rw [hp, Bool.false_and, if_neg (by decide), onR_n]
  | true =>
    have hp' := hp
    obtain ⟨o, ho, rfl⟩ := opOk_t n4 hp
    obtain ⟨d1, d2, d3, d4⟩ := q1.op ho
    have p1 := hE.p1 ho
    have p3 := hE.p3 ho
    rw [nI_clamp (by omega), if_pos rfl, onR_s, gA_t x0, x3, onR_s, ck_t ksm, sm_inI shs hCT.1 hE, cR_x, if_pos rfl, sh.g6, sh.a497 (by omega), d4, show (1 : Int32) = nI 1 from rfl, pk_sub p1, m_isIn, cI_x, b01_cs]
    unfold inOk
    rw [hp', Bool.true_and, nI_clamp (by omega)]
    cases hq : inI q (nI 0) (nI (eP (yE S) o - 1)) with
    | false =>
      have hq2 : inI q 0 (nI (eP (yE S) o - 1)) = false := hq
      refine ⟨-1000000001, ?_, ?_⟩
      · rw [if_neg (by decide), onR_n]
      · rw [hq2, if_neg (by decide)]
    | true =>
      have hq2 : inI q 0 (nI (eP (yE S) o - 1)) = true := hq
      obtain ⟨i, -, hi', rfl⟩ := inI_rng (a := 0) (b := eP (yE S) o - 1) (by omega) (by omega) hq
      have hi : i < eP (yE S) o := by omega
      have hv : vS (yE S) o i := ⟨ho, hi⟩
      have s18 := spt18 hE hv
      have kin := (shs.op (o := o) (by omega)).inn (i := i) (by omega)
      have kin1 := kin.1
      have kin2 := kin.2.1
      have krc := kin.2.2.1
      have k1 := (shs.op (o := o) (by omega)).1
      obtain ⟨w1, w2, w3, w4, w5⟩ := hCT.2.2.1 o i (by omega) (by omega)
      obtain ⟨⟨t1, -⟩, t2, t3, t4, t5⟩ := q3 (spt o i) s18
      rw [hq2, nI_clamp (by omega), if_pos rfl, onR_s, if_pos rfl, m_isIn, cI_x, b01_cs]
      cases hw : inI w 0 5 with
      | false =>
        refine ⟨-1000000002, ?_, rfl⟩
        rw [show nI 1 = (1 : Int32) from rfl, if_neg (show ¬ w = (0 : Int32) from i5 hw 0 (by omega)), if_neg (show ¬ w = (1 : Int32) from i5 hw 1 (by omega)), if_neg (show ¬ w = (2 : Int32) from i5 hw 2 (by omega)), if_neg (show ¬ w = (3 : Int32) from i5 hw 3 (by omega)), if_neg (show ¬ w = (4 : Int32) from i5 hw 4 (by omega)), if_neg (show ¬ w = (5 : Int32) from i5 hw 5 (by omega))]
      | true =>
        obtain ⟨N, -, h9, rfl⟩ := inI_rng (a := 0) (b := 5) (by omega) (by omega) hw
        rw [show nI 1 = (1 : Int32) from rfl, if_pos rfl, m_spot, cI_x]
        rcases (by omega : N = 0 ∨ N = 1 ∨ N = 2 ∨ N = 3 ∨ N = 4 ∨ N = 5) with rfl | rfl | rfl | rfl | rfl | rfl
        · refine ⟨nI (dL (yD S) (spt o i)).length, ?_, ?_⟩
          · rw [if_pos (show nI 0 = (0 : Int32) by decide), gA_t kin1, kin2, onR_s, gI_t krc, w1.2.2.1]
          · rw [if_pos (show nI 0 = (0 : Int32) by decide), sh.g39, sh.a516 s18, t1]
        · refine ⟨nI (b01 (dH (yD S) (spt o i))), ?_, ?_⟩
          · rw [if_neg (show ¬ nI 1 = (0 : Int32) by decide), if_pos (show nI 1 = (1 : Int32) by decide), gI_t kin1, w2, b01_cs]
            cases dH (yD S) (spt o i) <;> rfl
          · rw [if_neg (show ¬ nI 1 = (0 : Int32) by decide), if_pos (show nI 1 = (1 : Int32) by decide), sh.g45, sh.a522 s18, t4, b01_cs]
            cases dH (yD S) (spt o i) <;> rfl
        · refine ⟨nI (dS (yD S) (spt o i)), ?_, ?_⟩
          · rw [if_neg (show ¬ nI 2 = (0 : Int32) by decide), if_neg (show ¬ nI 2 = (1 : Int32) by decide), if_pos (show nI 2 = (2 : Int32) by decide), gI_t kin1, w3]
          · rw [if_neg (show ¬ nI 2 = (0 : Int32) by decide), if_neg (show ¬ nI 2 = (1 : Int32) by decide), if_pos (show nI 2 = (2 : Int32) by decide), sh.g43, sh.a520 s18, t2]
        · refine ⟨nI (dP (yD S) (spt o i)), ?_, ?_⟩
          · rw [if_neg (show ¬ nI 3 = (0 : Int32) by decide), if_neg (show ¬ nI 3 = (1 : Int32) by decide), if_neg (show ¬ nI 3 = (2 : Int32) by decide), if_pos (show nI 3 = (3 : Int32) by decide), gI_t kin1, w4]
          · rw [if_neg (show ¬ nI 3 = (0 : Int32) by decide), if_neg (show ¬ nI 3 = (1 : Int32) by decide), if_neg (show ¬ nI 3 = (2 : Int32) by decide), if_pos (show nI 3 = (3 : Int32) by decide), sh.g44, sh.a521 s18, t3]
        · refine ⟨nI (dN (yD S) (spt o i)), ?_, ?_⟩
          · rw [if_neg (show ¬ nI 4 = (0 : Int32) by decide), if_neg (show ¬ nI 4 = (1 : Int32) by decide), if_neg (show ¬ nI 4 = (2 : Int32) by decide), if_neg (show ¬ nI 4 = (3 : Int32) by decide), if_pos (show nI 4 = (4 : Int32) by decide), gI_t kin1, w5]
          · rw [if_neg (show ¬ nI 4 = (0 : Int32) by decide), if_neg (show ¬ nI 4 = (1 : Int32) by decide), if_neg (show ¬ nI 4 = (2 : Int32) by decide), if_neg (show ¬ nI 4 = (3 : Int32) by decide), if_pos (show nI 4 = (4 : Int32) by decide), sh.g33, sh.a513 s18, t5]
        · have e1 := kof_loop (T := T) (o := o) (i := i) shs hE ho (hCT.2.2.2.1 o (by omega)) (hCT.1.2.2.2 o ho).2.2.2 (by omega) 16 FU 0 0 (by omega) (by unfold FU; omega)
          have e2 := mof_loop (T := T) (o := o) (i := i) sh hE q1 ho q4 (fun hky x => h.1.2.2.2.2.2.1.1.1 o (Or.inr (Or.inr hky)) x) (by omega) 16 FU 0 0 (by omega) (by unfold FU; omega)
          refine ⟨nI (0 + cntF (ownP (dK (yD S) o) (eP (yE S) o) i) 0 16), ?_, ?_⟩
          · unfold f_op_keysOf
            rw [if_neg (show ¬ nI 5 = (0 : Int32) by decide), if_neg (show ¬ nI 5 = (1 : Int32) by decide), if_neg (show ¬ nI 5 = (2 : Int32) by decide), if_neg (show ¬ nI 5 = (3 : Int32) by decide), if_neg (show ¬ nI 5 = (4 : Int32) by decide), if_pos (show nI 5 = (5 : Int32) by decide), ck_t k1, show (0 : Int32) = nI 0 from rfl, e1, cI_x]
          · unfold f_m_keysOf
            rw [if_neg (show ¬ nI 5 = (0 : Int32) by decide), if_neg (show ¬ nI 5 = (1 : Int32) by decide), if_neg (show ¬ nI 5 = (2 : Int32) by decide), if_neg (show ¬ nI 5 = (3 : Int32) by decide), if_neg (show ¬ nI 5 = (4 : Int32) by decide), sh.ck, show (0 : Int32) = nI 0 from rfl, e2, cI_x]
-- channel
theorem rd_channel (hC : SC S I T) (sh : shM T) (hM : SM S I T) (h : PD S k) (p q u w : Int32) : ∃ v, f_x_channel 0 p q u w ((I, T) : Mem) = some (v, ((I, T) : Mem)) ∧ f_m_channel 492 p q u w ((I, T) : Mem) = some (v, ((I, T) : Mem)) := by
  obtain ⟨shs, shx, h550, -, -, ⟨g, hCT⟩, -⟩ := hC
  have hE := h.1.1
  have hI := h.1.2.2.1
  have n4 := hE.1
  obtain ⟨x0, -, -, -, x3, -⟩ := shx
  have ksm := shs.1
  have k11r := shs.2.1
  have k11 := shs.2.2.2.2.2.2.1
  obtain ⟨q1, q2, q3, q4, q5, q6, q7, q8, v1, v2, v3, v4, v5, v6, v7, v8⟩ := hM.1
  unfold f_x_channel f_m_channel
  rw [gA_t x0, x3, onR_s, ck_t ksm, sh.gI, q1.1, m_isIn, cI_x, b01_cs]
  cases hp : inI p 0 (nI (eN (yE S))) with
  | false =>
    refine ⟨-1000000001, ?_, rfl⟩
    have hn : f_sm_channelAt 10 p q u ((I, T) : Mem) = some (none, ((I, T) : Mem)) := by
      cases hp2 : opOk (yE S) p with
      | true =>
        obtain ⟨o, ho, rfl⟩ := opOk_t n4 hp2
        refine sm_chNo shs hCT.1 hE (by omega) q u (fun z => ?_)
        exact inI_no (by omega) hp o z.1 rfl
      | false =>
        unfold f_sm_channelAt
        rw [ck_t ksm, sm_opI shs hCT.1 n4, cR_x, hp2, if_neg (by decide), onR_n, ck_t ksm, sm_opI shs hCT.1 n4, cR_x]
        cases opOk (yE S) (p + 1) <;> rfl
    rw [hn, cR_x, onR_n]
  | true =>
    obtain ⟨o, -, ho, rfl⟩ := inI_rng (a := 0) (b := eN (yE S)) (by omega) (by omega) hp
    obtain ⟨d1, d2, d3, d4⟩ := q1.op (o := o) (by omega)
    obtain ⟨-, -, -, d4'⟩ := q1.op (o := o + 1) (by omega)
    have p1 := hE.p1 (o := o) (by omega)
    have p3 := hE.p3 (o := o) (by omega)
    have p1' := hE.p1 (o := o + 1) (by omega)
    have p3' := hE.p3 (o := o + 1) (by omega)
    rw [if_pos rfl, sh.g6, sh.a497 (by omega), d4, show (1 : Int32) = nI 1 from rfl, pk_sub p1, m_isIn, cI_x, b01_cs]
    cases hq : inI q 0 (nI (eP (yE S) o - 1)) with
    | false =>
      refine ⟨-1000000001, ?_, rfl⟩
      rw [sm_chNo shs hCT.1 hE (by omega) q u (fun z => ?_), cR_x, onR_n]
      obtain ⟨-, i, j, e1, e2, e3, e4⟩ := z
      exact inI_no (by omega) hq i (by omega) e1
    | true =>
      obtain ⟨i, -, hi', rfl⟩ := inI_rng (a := 0) (b := eP (yE S) o - 1) (by omega) (by omega) hq
      rw [if_pos rfl, sh.g6, show nI o + nI 1 = nI (o + 1) from nI_1 _, sh.a497 (by omega), d4', pk_sub p1', m_isIn, cI_x, b01_cs]
      cases hu : inI u 0 (nI (eP (yE S) (o + 1) - 1)) with
      | false =>
        refine ⟨-1000000001, ?_, rfl⟩
        rw [sm_chNo shs hCT.1 hE (by omega) (nI i) u (fun z => ?_), cR_x, onR_n]
        obtain ⟨-, i2, j, e1, e2, e3, e4⟩ := z
        exact inI_no (by omega) hu j (by omega) e2
      | true =>
        obtain ⟨j, -, hj', rfl⟩ := inI_rng (a := 0) (b := eP (yE S) (o + 1) - 1) (by omega) (by omega) hu
        have hv : vC (yE S) o i j := ⟨ho, by omega, by omega⟩
        have l45 := lin45 hE hv
        have kch := shs.ch (c := lin o i j) (by omega)
        have kch1 := kch.1
        have kr := kch.2.2.1
        have krc := kch.2.2.2.2.2.2.2.2.1
        have hok := (hI.1 o i j hv).1
        have c4 := hE.2.2.2.2.2.2.2.2.2.1.2
        obtain ⟨g1, g2, g3, g4, -⟩ := hCT.2.1 (lin o i j) (by omega)
        have hm := q2 (lin o i j) (by omega)
        obtain ⟨m1', m2, m3, -⟩ := id hm
        rw [if_pos rfl, m_isIn, cI_x, b01_cs, sm_chAt shs hCT.1 hE hv, cR_x, onR_s]
        cases hw : inI w 0 4 with
        | false =>
          refine ⟨-1000000002, ?_, rfl⟩
          rw [show nI 1 = (1 : Int32) from rfl, if_neg (show ¬ w = (0 : Int32) from i4 hw 0 (by omega)), if_neg (show ¬ w = (1 : Int32) from i4 hw 1 (by omega)), if_neg (show ¬ w = (2 : Int32) from i4 hw 2 (by omega)), if_neg (show ¬ w = (3 : Int32) from i4 hw 3 (by omega)), if_neg (show ¬ w = (4 : Int32) from i4 hw 4 (by omega))]
        | true =>
          obtain ⟨N, -, h9, rfl⟩ := inI_rng (a := 0) (b := 4) (by omega) (by omega) hw
          rw [show nI 1 = (1 : Int32) from rfl, if_pos rfl, m_line, cI_x]
          rcases (by omega : N = 0 ∨ N = 1 ∨ N = 2 ∨ N = 3 ∨ N = 4) with rfl | rfl | rfl | rfl | rfl
          · refine ⟨nI (dC (yD S) (lin o i j)).1.length, ?_, ?_⟩
            · rw [if_pos (show nI 0 = (0 : Int32) by decide), gI_t kch1, g2]
            · rw [if_pos (show nI 0 = (0 : Int32) by decide), sh.g51, sh.a528 (by omega), m3]
          · refine ⟨nI (dC (yD S) (lin o i j)).2.1.length, ?_, ?_⟩
            · rw [if_neg (show ¬ nI 1 = (0 : Int32) by decide), if_pos (show nI 1 = (1 : Int32) by decide), gI_t kch1, g3]
            · rw [if_neg (show ¬ nI 1 = (0 : Int32) by decide), if_pos (show nI 1 = (1 : Int32) by decide), sh.g46, sh.a523 (by omega), m1']
          · have hl : (flatH (dC (yD S) (lin o i j))).length = csz (dC (yD S) (lin o i j)) := by
              unfold flatH csz
              rw [List.length_append, flatQ_n]
            have e := m_inside (T := T) sh (by omega) hm (ch_lens hE hI (lin o i j)).1
            refine ⟨nI (csz (dC (yD S) (lin o i j))), ?_, ?_⟩
            · rw [if_neg (show ¬ nI 2 = (0 : Int32) by decide), if_neg (show ¬ nI 2 = (1 : Int32) by decide), if_pos (show nI 2 = (2 : Int32) by decide), gA_t kch1, kr, onR_s, gI_t krc, g1.2.2.1, hl]
            · rw [if_neg (show ¬ nI 2 = (0 : Int32) by decide), if_neg (show ¬ nI 2 = (1 : Int32) by decide), if_pos (show nI 2 = (2 : Int32) by decide), sh.ck, e, cI_x]
          · refine ⟨nI (dC (yD S) (lin o i j)).2.2, ?_, ?_⟩
            · rw [if_neg (show ¬ nI 3 = (0 : Int32) by decide), if_neg (show ¬ nI 3 = (1 : Int32) by decide), if_neg (show ¬ nI 3 = (2 : Int32) by decide), if_pos (show nI 3 = (3 : Int32) by decide), gI_t kch1, g4]
            · rw [if_neg (show ¬ nI 3 = (0 : Int32) by decide), if_neg (show ¬ nI 3 = (1 : Int32) by decide), if_neg (show ¬ nI 3 = (2 : Int32) by decide), if_pos (show nI 3 = (3 : Int32) by decide), sh.g47, sh.a524 (by omega), m2]
          · refine ⟨nI (eC (yE S)) - nI (dC (yD S) (lin o i j)).1.length, ?_, ?_⟩
            · rw [if_neg (show ¬ nI 4 = (0 : Int32) by decide), if_neg (show ¬ nI 4 = (1 : Int32) by decide), if_neg (show ¬ nI 4 = (2 : Int32) by decide), if_neg (show ¬ nI 4 = (3 : Int32) by decide), if_pos (show nI 4 = (4 : Int32) by decide), gA_t x0, x3, onR_s, gA_t ksm, k11r, onR_s, gI_t k11, hCT.1.2.1.2.2, gI_t kch1, g2]
            · rw [if_neg (show ¬ nI 4 = (0 : Int32) by decide), if_neg (show ¬ nI 4 = (1 : Int32) by decide), if_neg (show ¬ nI 4 = (2 : Int32) by decide), if_neg (show ¬ nI 4 = (3 : Int32) by decide), sh.gI, q1.2.2.2.1, sh.g51, sh.a528 (by omega), m3]
-- states
theorem x_numOf {a : Nat} {f : Kst} (ky : shKy T a) (hK : KyC I a f) (key sec : Int32) : f_x_numberOf a key sec ((I, T) : Mem) = some (numA f key sec, ((I, T) : Mem)) := by
  have ky1 := ky.1
  unfold f_x_numberOf numA
  by_cases h1 : key < 0
  · rw [if_pos h1, show inI key 0 15 = false by unfold inI; rw [decide_eq_true h1]; rfl]
    rfl
  by_cases h2 : (16 : Int32) ≤ key
  · rw [if_neg h1, if_pos h2, show inI key 0 15 = false by unfold inI; rw [decide_eq_false h1, decide_eq_true (i16.mp h2)]; rfl]
    rfl
  have hi : inI key 0 15 = true := by unfold inI; rw [decide_eq_false h1, decide_eq_false (fun z => h2 (i16.mpr z))]; rfl
  obtain ⟨x, -, hx, rfl⟩ := inI_rng (a := 0) (b := 15) (by omega) (by omega) hi
  rw [if_neg h1, if_neg h2, if_pos hi, nI_clamp (by omega)]
  obtain ⟨e1, e2, e3⟩ := ky_at ky hK (kf x)
  rw [← kv_kf (x := x) (by omega)] at e1 e2 e3
  rw [ck_t ky1, e1, cI_x, b01_cs]
  cases hs : (f (kf x)).isSome with
  | false => rfl
  | true =>
    rw [if_pos rfl, if_pos rfl]
    unfold f_x_numberOf_33
    by_cases h3 : sec = 0
    · rw [if_pos h3, if_pos h3, if_pos h3, ck_t ky1, e2, cI_x]
    rw [if_neg h3, if_neg h3]
    by_cases h4 : sec = 1
    · rw [if_pos h4, if_pos h4, if_neg h3, ck_t ky1, e3, cI_x]
    rw [if_neg h4, if_neg h4, if_neg h3]
theorem m_told (sh : shM T) (hE : okE E) (hc : CoM I E) {P p1 p2 : Nat} {F : Nat → Kst} (hK : KyM I P p1 p2 F) (hk0 : ∀ o, kyd (eK E o) = false → ∀ x, F o x = none) (a0 : ∀ n (k : Int32 → Option (Int32 × Mem)), n < 96 → aB ((I, T) : Mem) P (nI n) k = k (I P n)) (a1 : ∀ n (k : Int32 → Option (Int32 × Mem)), n < 96 → aI ((I, T) : Mem) p1 (nI n) k = k (I p1 n)) (a2 : ∀ n (k : Int32 → Option (Int32 × Mem)), n < 96 → aI ((I, T) : Mem) p2 (nI n) k = k (I p2 n)) (p key sec : Int32) : f_m_told 492 p key sec P p1 p2 ((I, T) : Mem) = some (if opOk E p then numA (F p.toNatClampNeg) key sec else -1000000001, ((I, T) : Mem)) := by
  have n4 := hE.1
  unfold f_m_told
  rw [sh.ck, m_isOp sh hc, cI_x, b01_cs]
  cases hp : opOk E p with
  | false => rfl
  | true =>
    obtain ⟨o, ho, rfl⟩ := opOk_t n4 hp
    obtain ⟨d1, d2, d3, d4⟩ := hc.op ho
    have ek := m_isKeyed (T := T) sh (by omega) d1 (kind_le hE ho)
    rw [if_pos rfl, if_pos rfl, nI_clamp (by omega), m_isIn, cI_x, b01_cs]
    unfold numA
    cases hi : inI key 0 15 with
    | false => rfl
    | true =>
      obtain ⟨x, -, hx, rfl⟩ := inI_rng (a := 0) (b := 15) (by omega) (by omega) hi
      rw [if_pos rfl, if_pos rfl, nI_clamp (by omega), sh.ck, ek, cI_x, b01_cs]
      obtain ⟨hb, hv⟩ := hK o (kf x) (by omega)
      rw [kf_val (by omega)] at hb hv
      cases hky : kyd (eK E o) with
      | false =>
        rw [hk0 o hky]
        rfl
      | true =>
        have hi2 : (16 : Int32) * nI o + nI x = nI (16 * o + x) := by rw [show (16 : Int32) = nI 16 from rfl, pk_mul, nI_add]
        rw [if_pos rfl, hi2, a0 _ _ (by omega), hb, b01_cs]
        cases hs : F o (kf x) with
        | none => rfl
        | some y =>
          obtain ⟨y1, y2⟩ := hv y hs
          rw [if_pos (show (some y).isSome = true from rfl), if_pos (show (some y).isSome = true from rfl), m_isIn, cI_x, b01_cs]
          by_cases h3 : sec = 0
          · subst h3
            rw [show inI (0 : Int32) 0 1 = true by decide, if_pos rfl, if_pos rfl, if_pos rfl, a1 _ _ (by omega), y1]
            rfl
          rw [if_neg h3, if_neg h3]
          by_cases h4 : sec = 1
          · subst h4
            rw [show inI (1 : Int32) 0 1 = true by decide, if_pos rfl, if_pos rfl, a2 _ _ (by omega), y2]
            rfl
          rw [if_neg h4]
          cases h5 : inI sec 0 1 with
          | false => rfl
          | true =>
            obtain ⟨N, -, hN, rfl⟩ := inI_rng (a := 0) (b := 1) (by omega) (by omega) h5
            rcases (by omega : N = 0 ∨ N = 1) with rfl | rfl
            · exact absurd rfl h3
            · exact absurd rfl h4
theorem rd_state (hC : SC S I T) (sh : shM T) (hM : SM S I T) (h : PD S k) (p key sec : Int32) : ∃ v, f_x_state 0 p key sec ((I, T) : Mem) = some (v, ((I, T) : Mem)) ∧ f_m_state 492 p key sec ((I, T) : Mem) = some (v, ((I, T) : Mem)) := by
  obtain ⟨shs, shx, h550, -, -, ⟨g, hCT⟩, -⟩ := hC
  have hE := h.1.1
  have n4 := hE.1
  obtain ⟨x0, -, -, -, x3, -⟩ := shx
  have ksm := shs.1
  have em := m_told (T := T) sh hE hM.1.1 hM.1.2.2.2.1 (fun o hky x => h.1.2.2.2.2.2.1.1.1 o (Or.inr (Or.inr hky)) x) (fun n k hn => sh.a504 hn) (fun n k hn => sh.a507 hn) (fun n k hn => sh.a510 hn) p key sec
  refine ⟨if opOk (yE S) p then numA (dK (yD S) p.toNatClampNeg) key sec else -1000000001, ?_, ?_⟩
  rotate_left
  · unfold f_m_state
    rw [sh.g24, sh.g27, sh.g30, sh.ck, em, cI_x]
  · unfold f_x_state
    rw [gA_t x0, x3, onR_s, ck_t ksm, sm_opI shs hCT.1 n4, cR_x]
    cases hp : opOk (yE S) p with
    | false => rfl
    | true =>
      obtain ⟨o, ho, rfl⟩ := opOk_t n4 hp
      have kop := shs.op (o := o) (by omega)
      have k1 := kop.1
      have kr1 := kop.2.2.2.2.2.1
      have ky := kop.2.2.2.2.2.2.2.2.2.2.1
      rw [if_pos rfl, onR_s, nI_clamp (by omega), gA_t k1, kr1, onR_s, x_numOf ky (hCT.2.2.2.1 o (by omega)), cI_x]
      rfl
theorem rd_saved (hC : SC S I T) (sh : shM T) (hM : SM S I T) (h : PD S k) (p key sec : Int32) : ∃ v, f_x_savedState 0 p key sec ((I, T) : Mem) = some (v, ((I, T) : Mem)) ∧ f_m_savedState 492 p key sec ((I, T) : Mem) = some (v, ((I, T) : Mem)) := by
  obtain ⟨shs, shx, h550, -, -, ⟨g, hCT⟩, -⟩ := hC
  have hE := h.1.1
  have n4 := hE.1
  obtain ⟨x0, -, -, -, x3, -⟩ := shx
  have ksm := shs.1
  have em := m_told (T := T) sh hE hM.1.1 hM.1.2.2.2.2.2.2.2.2.1 (fun o hky x => h.1.2.2.2.2.2.1.2.1.1 o (Or.inr (Or.inr hky)) x) (fun n k hn => sh.a506 hn) (fun n k hn => sh.a509 hn) (fun n k hn => sh.a512 hn) p key sec
  refine ⟨if opOk (yE S) p then numA (qV (yQ S) p.toNatClampNeg) key sec else -1000000001, ?_, ?_⟩
  rotate_left
  · unfold f_m_savedState
    rw [sh.g26, sh.g29, sh.g32, sh.ck, em, cI_x]
  · unfold f_x_savedState
    rw [gA_t x0, x3, onR_s, ck_t ksm, sm_opI shs hCT.1 n4, cR_x]
    cases hp : opOk (yE S) p with
    | false => rfl
    | true =>
      obtain ⟨o, ho, rfl⟩ := opOk_t n4 hp
      have kop := shs.op (o := o) (by omega)
      have k1 := kop.1
      have kr3 := kop.2.2.2.2.2.2.2.1
      have ky := kop.2.2.2.2.2.2.2.2.2.2.2.2.1
      rw [if_pos rfl, onR_s, nI_clamp (by omega), gA_t k1, kr3, onR_s, x_numOf ky (hCT.2.2.2.2.2.2.2.2.2.2.1 o (by omega)), cI_x]
      rfl
end
