/-! CALLS: latency, explanation, written -/
def jI (n : Nat) : Int64 := Int64.ofNat n
section
variable {T T' : Tl} {I I' : Iw} {E E' : Env} {D D' : Dy} {Q Q' : Slow} {S : Sy} {g g' : Nat → Kst} {o i j s c r tk k m : Nat}
theorem jI_of {a : Nat} (h : a < 2 ^ 31) : (nI a).toInt64 = jI a := Int32.toInt64_ofNat' (by
  have : Int32.maxValue.toInt = 2147483647 := by decide
  omega)
theorem jI_add (a b : Nat) : jI a + jI b = jI (a + b) := (Int64.ofNat_add a b).symm
theorem jI_mul (a b : Nat) : jI a * jI b = jI (a * b) := (Int64.ofNat_mul a b).symm
theorem jI_le {a b : Nat} (ha : a < 2 ^ 63) (hb : b < 2 ^ 63) : jI a ≤ jI b ↔ a ≤ b := by
  unfold jI
  rw [Int64.le_iff_toInt_le, Int64.toInt_ofNat_of_lt ha, Int64.toInt_ofNat_of_lt hb]
  omega
theorem jI_lt {a b : Nat} (ha : a < 2 ^ 63) (hb : b < 2 ^ 63) : jI a < jI b ↔ a < b := by
  unfold jI
  rw [Int64.lt_iff_toInt_lt, Int64.toInt_ofNat_of_lt ha, Int64.toInt_ofNat_of_lt hb]
  omega
theorem jI_eq {a b : Nat} (ha : a < 2 ^ 63) (hb : b < 2 ^ 63) : jI a = jI b ↔ a = b := by
  refine ⟨fun h => ?_, fun h => by rw [h]⟩
  have h1 := congrArg Int64.toInt h
  unfold jI at h1
  rw [Int64.toInt_ofNat_of_lt ha, Int64.toInt_ofNat_of_lt hb] at h1
  omega
theorem sumN_mono {f : Nat → Nat} {a : Nat} : ∀ {b : Nat}, a ≤ b → sumN a f ≤ sumN b f
  | 0, h => by rw [show a = 0 by omega]; exact Nat.le_refl _
  | b + 1, h => by
    by_cases hz : a = b + 1
    · rw [hz]; exact Nat.le_refl _
    · exact Nat.le_trans (sumN_mono (b := b) (by omega)) (Nat.le_add_right _ _)
def latP (D : Dy) (N l : Nat) : Prop := 0 < sumN (l + 1) (dT D) ∧ N * dM D ≤ 100 * sumN (l + 1) (dT D)
theorem xlat_loop (sh : shSm T) {lv N l0 : Nat} (hr : tR T 18 0 = some lv) (hk : tK T lv = 100) (hL : tL T lv ≤ 131072) (h1 : I 18 1 = nI (dM D)) (ht : ∀ t, t < tL T lv → I lv t = nI (dT D t)) (hM : dM D < 2 ^ 28) (hs : ∀ l, sumN l (dT D) ≤ dM D) (hN : N ≤ 100) (hl0 : l0 < tL T lv) (hp : latP D N l0) (hm : ∀ j, j < l0 → ¬ latP D N j) : ∀ (d n l : Nat), l + d = l0 → d < n → f_la_leastOf_5 n 18 (nI N) (jI (sumN l (dT D))) (nI l) ((I, T) : Mem) = some (nI l0, ((I, T) : Mem))
  | d, 0, l, _, hn => by omega
  | d, n + 1, l, hl, hn => by
    have k18 := sh.2.2.2.2.2.2.2.2.2.2.2.1
    have hlt : l < tL T lv := by omega
    have hsl := hs (l + 1)
    have hdt : dT D l ≤ dM D := Nat.le_trans (by show dT D l ≤ sumN l (dT D) + dT D l; omega) hsl
    have hNM : N * dM D ≤ 100 * 2 ^ 28 := Nat.mul_le_mul hN (by omega)
    have e1 : jI (sumN l (dT D)) + (nI (dT D l)).toInt64 = jI (sumN (l + 1) (dT D)) := by
      rw [jI_of (by omega), jI_add]
      rfl
    have e2 : jI (sumN (l + 1) (dT D)) * (100 : Int64) = jI (100 * sumN (l + 1) (dT D)) := by
      rw [show (100 : Int64) = jI 100 from rfl, jI_mul, Nat.mul_comm]
    have e3 : (nI N).toInt64 * (nI (dM D)).toInt64 = jI (N * dM D) := by
      rw [jI_of (by omega), jI_of (by omega), jI_mul]
    have c1 : lg_cmp (jI (sumN (l + 1) (dT D))) (0 : Int64) ≤ (0 : Int32) ↔ sumN (l + 1) (dT D) ≤ 0 := by
      rw [lg_cmp_le, show (0 : Int64) = jI 0 from rfl, jI_le (by omega) (by omega)]
    have c2 : lg_cmp (jI (100 * sumN (l + 1) (dT D))) (jI (N * dM D)) < (0 : Int32) ↔ 100 * sumN (l + 1) (dT D) < N * dM D := by
      rw [lg_cmp_lt, jI_lt (by omega) (by omega)]
    unfold f_la_leastOf_5
    rw [gA_t k18, hr, onR_s, aN_t (by omega) (by omega), if_neg (fun z => by have := (nI_leI (by omega) (by omega)).mp z; omega), gA_t k18, hr, onR_s, aI_t hk hlt (by omega), ht l hlt, e1]
    by_cases hz : l = l0
    · rw [hz] at c1 c2 e2 ⊢
      have hp1 := hp.1
      have hp2 := hp.2
      rw [if_neg (fun z => by have := c1.mp z; omega), gI_t k18, h1, e2, e3, if_neg (fun z => by have := c2.mp z; omega)]
    · have hnp := hm l (by omega)
      unfold f_la_leastOf_52
      cases d with
      | zero => omega
      | succ d =>
        have ih := xlat_loop sh hr hk hL h1 ht hM hs hN hl0 hp hm d n (l + 1) (by omega) (by omega)
        rw [show nI l + (1 : Int32) = nI (l + 1) from nI_1 _]
        by_cases h0 : sumN (l + 1) (dT D) ≤ 0
        · rw [if_pos (c1.mpr h0)]
          exact ih
        · rw [if_neg (fun z => h0 (c1.mp z)), gI_t k18, h1, e2, e3, if_pos (c2.mpr (by unfold latP at hnp; omega))]
          exact ih
theorem mlat_loop (sh : shM T) {N l0 : Nat} (ht : ∀ t, t < 40000 → I 534 t = nI (dT D t)) (hM : dM D < 2 ^ 28) (hs : ∀ l, sumN l (dT D) ≤ dM D) (hN : N ≤ 100) (hl0 : l0 < 40000) (hp : latP D N l0) (hm : ∀ j, j < l0 → ¬ latP D N j) : ∀ (d n l : Nat), l + d = l0 → d < n → f_m_latency_69 n 492 (jI (N * dM D)) (nI l) (jI (sumN (l + 1) (dT D))) ((I, T) : Mem) = some (nI l0, ((I, T) : Mem))
  | d, 0, l, _, hn => by omega
  | d, n + 1, l, hl, hn => by
    have hsl := hs (l + 1)
    have hsl2 := hs (l + 1 + 1)
    have hdt : dT D (l + 1) ≤ dM D := Nat.le_trans (by show dT D (l + 1) ≤ sumN (l + 1) (dT D) + dT D (l + 1); omega) hsl2
    have hNM : N * dM D ≤ 100 * 2 ^ 28 := Nat.mul_le_mul hN (by omega)
    have e1 : jI (sumN (l + 1) (dT D)) + (nI (dT D (l + 1))).toInt64 = jI (sumN (l + 1 + 1) (dT D)) := by
      rw [jI_of (by omega), jI_add]
      rfl
    have e2 : (100 : Int64) * jI (sumN (l + 1) (dT D)) = jI (100 * sumN (l + 1) (dT D)) := by
      rw [show (100 : Int64) = jI 100 from rfl, jI_mul]
    have c1 : lg_cmp (jI (sumN (l + 1) (dT D))) (0 : Int64) = (0 : Int32) ↔ sumN (l + 1) (dT D) = 0 := by
      rw [lg_cmp_eq, show (0 : Int64) = jI 0 from rfl, jI_eq (by omega) (by omega)]
    have c2 : (0 : Int32) ≤ lg_cmp (jI (100 * sumN (l + 1) (dT D))) (jI (N * dM D)) ↔ N * dM D ≤ 100 * sumN (l + 1) (dT D) := by
      rw [lg_cmp_ge, jI_le (by omega) (by omega)]
    unfold f_m_latency_69
    rw [e2]
    by_cases hz : l = l0
    · rw [hz] at c1 c2 ⊢
      have hp1 := hp.1
      have hp2 := hp.2
      rw [if_neg (fun z => by have := c1.mp z; omega), if_pos (c2.mpr hp2)]
    · have hnp := hm l (by omega)
      unfold f_m_latency_87
      cases d with
      | zero => omega
      | succ d =>
        have ih := mlat_loop sh ht hM hs hN hl0 hp hm d n (l + 1) (by omega) (by omega)
        rw [show nI l + (1 : Int32) = nI (l + 1) from nI_1 _, sh.g57, sh.a534 (by omega), ht (l + 1) (by omega), e1]
        by_cases h0 : sumN (l + 1) (dT D) = 0
        · rw [if_pos (c1.mpr h0)]
          exact ih
        · rw [if_neg (fun z => h0 (c1.mp z)), if_neg (fun z => hnp ⟨by omega, c2.mp z⟩)]
          exact ih
theorem rd_latency (hC : SC S I T) (sh : shM T) (hM : SM S I T) (h : PD S k) (hk : k ≤ 512) (p : Int32) : ∃ v, f_x_latency 0 p ((I, T) : Mem) = some (v, ((I, T) : Mem)) ∧ f_m_latency 492 p ((I, T) : Mem) = some (v, ((I, T) : Mem)) := by
  obtain ⟨shs, shx, h550, -, -, ⟨g, hCT⟩, -⟩ := hC
  obtain ⟨x0, -, -, -, x3, -⟩ := shx
  have ksm := shs.1
  have k4 := shs.2.2.2.2.2.1
  have k18 := shs.2.2.2.2.2.2.2.2.2.2.2.1
  obtain ⟨lv, r1, r2, r3, r4, r5, r6, r7, r8, r9, r10⟩ := hCT.2.2.2.2.2.2.2.2.2.1
  obtain ⟨t1, t2, t3⟩ := hM.1.2.2.2.2.2.2.1
  obtain ⟨-, -, -, n4, n5, n6⟩ := h.1.2.2.2.2.2.2.1
  have hT := h.1.2.2.2.2.2.2.2.2.2.1
  have hM28 : dM (yD S) < 2 ^ 28 := by omega
  unfold f_x_latency f_m_latency
  rw [m_isIn, cI_x, b01_cs]
  by_cases h1 : p < -2
  · refine ⟨-1000000002, if_pos h1, ?_⟩
    rw [show inI p (-2) 100 = false by unfold inI; rw [decide_eq_true h1]; rfl]
    rfl
  by_cases h2 : p ≤ 100
  case neg =>
    refine ⟨-1000000002, by rw [if_neg h1, if_neg h2], ?_⟩
    rw [show inI p (-2) 100 = false by unfold inI; rw [decide_eq_false h1, decide_eq_true (Int32.not_le.mp h2)]; rfl]
    rfl
  rw [if_neg h1, if_pos h2, show inI p (-2) 100 = true by unfold inI; rw [decide_eq_false h1, decide_eq_false (Int32.not_lt.mpr h2)]; rfl, if_pos rfl, gA_t x0, x3, onR_s, gA_t ksm, k4, onR_s, gI_t k18, r7, sh.gI, t2]
  by_cases h3 : dM (yD S) = 0
  · rw [h3]
    exact ⟨-1000000001, if_pos (by decide), if_pos (by decide)⟩
  have h3' : ¬ nI (dM (yD S)) = (0 : Int32) := nI_ne0 (by omega) (by omega)
  rw [if_neg h3', if_neg h3']
  by_cases h4 : p = -2
  · subst h4
    refine ⟨dU (yD S), ?_, ?_⟩
    · rw [if_pos rfl, gI_t k18, r8]
    · rw [if_neg (by decide), if_pos rfl, sh.gJ, t3]
  by_cases h5 : p = -1
  · subst h5
    refine ⟨nI (dM (yD S)), ?_, ?_⟩
    · rw [if_neg h4, if_pos rfl, gI_t k18, r7]
    · rw [if_neg (by decide), if_neg h4, sh.gI, t2]
  have h6 : ¬ p < nI 0 := fun z => by
    rw [Int32.lt_iff_toInt_lt, nI_toInt (by omega)] at z
    rw [Int32.lt_iff_toInt_lt, show (-2 : Int32).toInt = -2 by decide] at h1
    have e4 : p.toInt ≠ -2 := fun w => h4 (Int32.toInt_inj.mp (by rw [w]; decide))
    have e5 : p.toInt ≠ -1 := fun w => h5 (Int32.toInt_inj.mp (by rw [w]; decide))
    omega
  obtain ⟨N, -, hN, rfl⟩ := x_range (a := 0) (b := 100) (by omega) h6 h2 (by omega)
  have hs : ∀ l, sumN l (dT (yD S)) ≤ dM (yD S) := fun l => by
    by_cases hl : l ≤ 40000
    · rw [← n5]; exact sumN_mono hl
    · have : sumN l (dT (yD S)) = sumN 40000 (dT (yD S)) := by
        rw [show l = 40000 + (l - 40000) by omega]
        exact sumN_ex 40000 (l - 40000) (fun x a1 a2 => n6 x a1)
      rw [this, n5]
      exact Nat.le_refl _
  have hcum : ∀ l, (∀ t, l ≤ t → dT (yD S) t = 0) → sumN l (dT (yD S)) = dM (yD S) := fun l hl => by
    have e1 := sumN_ex (f := dT (yD S)) l 40000 (fun x a1 a2 => hl x a1)
    have e2 := sumN_ex (f := dT (yD S)) 40000 l (fun x a1 a2 => n6 x a1)
    rw [← n5, ← e2, Nat.add_comm, e1]
  have hN100 : N * dM (yD S) ≤ 100 * dM (yD S) := Nat.mul_le_mul_right _ hN
  have q1 : latP (yD S) N 39999 := ⟨by rw [show 39999 + 1 = 40000 from rfl, n5]; omega, by rw [show 39999 + 1 = 40000 from rfl, n5]; exact hN100⟩
  have q2 : latP (yD S) N (tL T lv - 1) := by
    have e := hcum (tL T lv) r10
    unfold latP
    rw [show tL T lv - 1 + 1 = tL T lv by omega, e]
    exact ⟨by omega, hN100⟩
  obtain ⟨l0, b1, b2, b3⟩ := lowest (latP (yD S) N) (min 39999 (tL T lv - 1)) (by
    rcases Nat.le_total 39999 (tL T lv - 1) with hz | hz
    · rw [Nat.min_eq_left hz]; exact q1
    · rw [Nat.min_eq_right hz]; exact q2)
  refine ⟨nI l0, ?_, ?_⟩
  · have e := xlat_loop (T := T) shs r1 r2 r6 r7 r9 hM28 hs hN (by omega) b2 b3 l0 FU 0 (by omega) (by unfold FU; omega)
    unfold f_la_leastOf
    rw [if_neg h4, if_neg h5, ck_t k18, show (0 : Int64) = jI (sumN 0 (dT (yD S))) from rfl, show (0 : Int32) = nI 0 from rfl, e, cI_x]
  · have e := mlat_loop (T := T) sh t1 hM28 hs hN (by omega) b2 b3 l0 FU 0 (by omega) (by unfold FU; omega)
    have e0 : (nI (dT (yD S) 0)).toInt64 = jI (sumN (0 + 1) (dT (yD S))) := by
      have := hs 1
      have e1 : sumN (0 + 1) (dT (yD S)) = dT (yD S) 0 := Nat.zero_add _
      rw [e1, jI_of (by rw [← e1]; exact Nat.lt_of_le_of_lt this (by omega))]
    have e3 : (nI N).toInt64 * (nI (dM (yD S))).toInt64 = jI (N * dM (yD S)) := by
      rw [jI_of (by omega), jI_of (by omega), jI_mul]
    rw [if_pos (show (0 : Int32) ≤ nI N from (nI_leI (a := 0) (by omega) (by omega)).mpr (by omega)), sh.gI, t2, sh.g57, show (0 : Int32) = nI 0 from rfl, sh.a534 (by omega), t1 0 (by omega), e0, e3, e]
-- explanation
theorem rd_expl (hC : SC S I T) (sh : shM T) (hM : SM S I T) (h : PD S k) (p q : Int32) : ∃ v, f_x_explanation 0 p q ((I, T) : Mem) = some (v, ((I, T) : Mem)) ∧ f_m_explanation 492 p q ((I, T) : Mem) = some (v, ((I, T) : Mem)) := by
  obtain ⟨shs, shx, h550, -, -, -, -, -, ⟨x1, x2⟩, -⟩ := hC
  obtain ⟨y1, y2⟩ := hM.2.2.2
  have hlen := h.2.2.2.2
  obtain ⟨x0, -, -, -, -, -, x5, -⟩ := id shx
  have k489 := shx.2.2.2.2.2.2.2.2.2.2.2.2.2.2.2.2.2.2.1
  have kr1 := shx.2.2.2.2.2.2.2.2.2.2.2.2.2.2.2.2.2.2.2.2.1
  have kr2 := shx.2.2.2.2.2.2.2.2.2.2.2.2.2.2.2.2.2.2.2.2.2.1
  obtain ⟨k490, l490, k491, l491⟩ := shx.2.2.2.2.2.2.2.2.2.2.2.2.2.2.2.2.2.2.2.2.2.2
  unfold f_x_explanation f_m_explanation
  rw [sh.gI, y1, m_isIn, cI_x, b01_cs]
  by_cases h1 : p < 0
  · refine ⟨-1000000001, if_pos h1, ?_⟩
    rw [show inI p 0 (nI (yX S).length - 1) = false by unfold inI; rw [decide_eq_true h1]; rfl]
    rfl
  rw [if_neg h1, gA_t x0, x5, onR_s, gI_t k489, x1]
  have t1 : (nI (yX S).length).toInt = (yX S).length := nI_toInt (by omega)
  have t2 : (nI (yX S).length - 1).toInt = ((yX S).length : Int) - 1 := by
    cases hl : (yX S).length with
    | zero => decide
    | succ a =>
      rw [show (1 : Int32) = nI 1 from rfl, pk_sub (by omega), nI_toInt (by omega)]
      omega
  by_cases h2 : nI (yX S).length ≤ p
  · refine ⟨-1000000001, if_pos h2, ?_⟩
    rw [show inI p 0 (nI (yX S).length - 1) = false by
      unfold inI
      rw [decide_eq_true (show nI (yX S).length - 1 < p by
        rw [Int32.lt_iff_toInt_lt, t2]
        rw [Int32.le_iff_toInt_le, t1] at h2
        omega), Bool.not_true, Bool.and_false]]
    rfl
  rw [if_neg h2]
  have h3 : p < nI (yX S).length := Int32.not_le.mp h2
  have hin : inI p 0 (nI (yX S).length - 1) = true := by
    unfold inI
    rw [decide_eq_false h1, decide_eq_false (show ¬ nI (yX S).length - 1 < p from fun z => by
      rw [Int32.lt_iff_toInt_lt, t2] at z
      rw [Int32.lt_iff_toInt_lt, t1] at h3
      omega)]
    rfl
  obtain ⟨N, -, hN, rfl⟩ := x_range (a := 0) (b := (yX S).length) (by omega) h1 (Int32.le_of_lt h3) (by omega)
  have hNl : N < (yX S).length := (nI_ltI (by omega) (by omega)).mp h3
  obtain ⟨w1, w2⟩ := x2 N hNl
  obtain ⟨u1, u2'⟩ := y2 N hNl
  rw [hin, if_pos rfl, if_pos (show nI N < (8 : Int32) from (nI_ltI (b := 8) (by omega) (by omega)).mpr (by omega)), m_isIn, cI_x, b01_cs]
  by_cases h4 : q = 0
  · subst h4
    refine ⟨nI (yX S)[N].1, ?_, ?_⟩
    · rw [if_pos rfl, gA_t x0, x5, onR_s, gA_t k489, kr1, onR_s, aI_t k490 (by omega) (by omega), w1]
    · rw [show inI (0 : Int32) 0 1 = true by decide, if_pos rfl, if_pos rfl, sh.g75, sh.a547 (by omega), u1]
  by_cases h5 : q = 1
  · subst h5
    refine ⟨nI (yX S)[N].2, ?_, ?_⟩
    · rw [if_neg h4, if_pos rfl, gA_t x0, x5, onR_s, gA_t k489, kr2, onR_s, aI_t k491 (by omega) (by omega), w2]
    · rw [show inI (1 : Int32) 0 1 = true by decide, if_pos rfl, if_neg h4, sh.g76, sh.a548 (by omega), u2']
  refine ⟨-1000000002, ?_, ?_⟩
  · rw [if_neg h4, if_neg h5]
  · cases h6 : inI q 0 1 with
    | false => rfl
    | true =>
      obtain ⟨M, -, hM', rfl⟩ := inI_rng (a := 0) (b := 1) (by omega) (by omega) h6
      rcases (by omega : M = 0 ∨ M = 1) with rfl | rfl
      · exact absurd rfl h4
      · exact absurd rfl h5
-- written
theorem ch128 : ∀ c : Fin 128, ((nI c.val &&& (255 : Int32)).toUInt32 % 65536).toInt32 = nI c.val ∧ narrow .char (.int (nI c.val)) = .int (nI c.val) ∧ (nI c.val).toInt8.toInt32 = nI c.val ∧ ((nI c.val).toUInt32 % 65536).toInt32 = nI c.val ∧ narrow .byte (.int (nI c.val)) = .int (nI c.val) := by decide +kernel
theorem nrZ_c {α : Type} {c : Nat} (hc : c < 128) (X : Option α) : nrZ .char (nI c) X = X := if_pos (ch128 ⟨c, hc⟩).2.1
theorem sh0 (x : Int32) : x >>> (nI 0 &&& (31 : Int32)) = x := by
  rw [show (nI 0 &&& (31 : Int32)) = 0 by decide, Int32.shiftRight_zero]
theorem sb_length {p : Nat} {l : List Int32} (hk : tK T p = 14) (h : SbC I T p l) : f_sb_length p ((I, T) : Mem) = some (nI l.length, ((I, T) : Mem)) := by
  obtain ⟨tv, -, -, -, -, -, -, -, -, h3, -⟩ := h
  unfold f_sb_length f_ab_length
  rw [ck_t hk, gI_t hk, h3, cI_x]
theorem sb_charAt {p : Nat} {l : List Int32} (hk : tK T p = 14) (h : SbC I T p l) (hc : chk l) (hj : j < l.length) : f_sb_charAt p (nI j) ((I, T) : Mem) = some (l[j], ((I, T) : Mem)) := by
  obtain ⟨tv, h1, h2, h3, h4, h5, h6, h7, h8, h9, h10⟩ := h
  obtain ⟨c, hc1, hc2⟩ := hc l[j] (List.getElem_mem hj)
  have hv := h10 j hj
  rw [hc2] at hv ⊢
  have hch := (ch128 ⟨c, hc1⟩).1
  simp only at hch
  have hmin : f_ma_min (nI l.length) (nI (tL T tv)) ((I, T) : Mem) = some (nI (min l.length (tL T tv)), ((I, T) : Mem)) := ma_min _ (by omega) (by omega)
  rw [Nat.min_eq_left h5] at hmin
  unfold f_sb_charAt f_ab_charAt f_st_checkIndex f_pc_checkIndex
  rw [ck_t hk, gI_t hk, h8, gA_t hk, h1, onR_s, gI_t hk, h9, aN_t (by omega) (by omega), sh0, hmin, cI_x, if_neg (show ¬ nI j < (0 : Int32) from fun z => by have := (nI_ltI (b := 0) (by omega) (by omega)).mp z; omega), if_pos ((nI_ltI (by omega) (by omega)).mpr hj), cI_x, cV_x, if_pos (show nI 0 = (0 : Int32) from rfl), aB_t (Or.inl h2) (by omega) (by omega), hv, hch, nrZ_c hc1, cI_x, nrZ_c hc1]
theorem rd_written (hC : SC S I T) (sh : shM T) (hM : SM S I T) (h : PD S k) (p : Int32) : ∃ v, f_x_written 0 p ((I, T) : Mem) = some (v, ((I, T) : Mem)) ∧ f_m_written 492 p ((I, T) : Mem) = some (v, ((I, T) : Mem)) := by
  obtain ⟨shs, shx, h550, -, -, -, -, hW, -⟩ := hC
  obtain ⟨y1, y2⟩ := hM.2.2.1
  obtain ⟨hlen, hck⟩ := h.2.2.2.1
  obtain ⟨x0, -, x1, -, -, -, -, -, k3, -⟩ := id shx
  unfold f_x_written f_m_written
  rw [sh.gI, y1, m_isIn, cI_x, b01_cs]
  by_cases h1 : p < 0
  · refine ⟨-1000000001, if_pos h1, ?_⟩
    rw [show inI p 0 (nI (yW S).length - 1) = false by unfold inI; rw [decide_eq_true h1]; rfl]
    rfl
  rw [if_neg h1, gA_t x0, x1, onR_s, ck_t k3, sb_length k3 hW, cI_x]
  have t1 : (nI (yW S).length).toInt = (yW S).length := nI_toInt (by omega)
  have t2 : (nI (yW S).length - 1).toInt = ((yW S).length : Int) - 1 := by
    cases hl : (yW S).length with
    | zero => decide
    | succ a =>
      rw [show (1 : Int32) = nI 1 from rfl, pk_sub (by omega), nI_toInt (by omega)]
      omega
  by_cases h2 : p < nI (yW S).length
  · have hin : inI p 0 (nI (yW S).length - 1) = true := by
      unfold inI
      rw [decide_eq_false h1, decide_eq_false (show ¬ nI (yW S).length - 1 < p from fun z => by
        rw [Int32.lt_iff_toInt_lt, t2] at z
        rw [Int32.lt_iff_toInt_lt, t1] at h2
        omega)]
      rfl
    obtain ⟨N, -, hN, rfl⟩ := x_range (a := 0) (b := (yW S).length) (by omega) h1 (Int32.le_of_lt h2) (by omega)
    have hNl : N < (yW S).length := (nI_ltI (by omega) (by omega)).mp h2
    refine ⟨(yW S)[N], ?_, ?_⟩
    · rw [if_pos h2, gA_t x0, x1, onR_s, ck_t k3, sb_charAt k3 hW hck hNl, cI_x]
    · rw [hin, if_pos rfl, sh.g79, sh.a549 (by omega), y2 N hNl]
  · refine ⟨-1000000001, if_neg h2, ?_⟩
    rw [show inI p 0 (nI (yW S).length - 1) = false by
      unfold inI
      rw [decide_eq_true (show nI (yW S).length - 1 < p by
        rw [Int32.lt_iff_toInt_lt, t2]
        rw [Int32.lt_iff_toInt_lt, t1] at h2
        omega), Bool.not_true, Bool.and_false]]
    rfl
end
