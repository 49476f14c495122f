/-! CALLS: write, of both -/
def yWrite (S : Sy) : Int32 × Sy := (nI (wrF (yE S) (eN (yE S)) 1).length, wS S (wrF (yE S) (eN (yE S)) 1))
section
variable {T T' : Tl} {I I' : Iw} {E E' : Env} {D D' : Dy} {Q Q' : Slow} {S : Sy} {g g' : Nat → Kst} {o i j s c r tk k m : Nat} {l : List Int32}
theorem PD_write (h : PD S k) : PD (yWrite S).2 (k + 1) := by
  have h2 := PD_mono h (show k ≤ k + 1 by omega)
  have n4 := h.1.1.1
  obtain ⟨w1, w2⟩ := wrF_ok h.1.1 h.2.1 (eN (yE S)) 1 (Nat.le_refl _) (by omega)
  exact ⟨h2.1, h2.2.1, h2.2.2.1, ⟨by show (wrF (yE S) (eN (yE S)) 1).length ≤ 80; omega, w2⟩, h2.2.2.2.2⟩
theorem num_1 {p : Nat} (hp : p ≤ 3) : numL (nI p) = [nI (48 + p)] := by
  unfold numL
  rw [if_neg (show ¬ nI p < (0 : Int32) from fun z => by have := (nI_ltI (b := 0) (by omega) (by omega)).mp z; omega), nI_toInt (by omega), show ((p : Int).natAbs) = p from Int.natAbs_natCast p, if_neg (by omega), Nat.mod_eq_of_lt (by omega)]
  rfl
theorem cfg (hC : SC S I T) (ho : o ≤ eN (yE S) + 1) (n4 : eN (yE S) ≤ 4) : tK T 0 = 12 ∧ tR T 0 1 = some 3 ∧ tK T 3 = 14 ∧ tK T (20 + 33 * o) = 6 ∧ I (20 + 33 * o) 6 = nI (eK (yE S) o) ∧ I (20 + 33 * o) 7 = eA (yE S) o ∧ I (20 + 33 * o) 8 = eB (yE S) o ∧ I (20 + 33 * o) 9 = nI (eP (yE S) o) := by
  obtain ⟨sh, shx, -, -, -, ⟨g, hCT⟩, -⟩ := hC
  obtain ⟨c1, c2, c3, c4⟩ := hCT.1.2.2.2 o ho
  obtain ⟨x0, -, x1, -, -, -, -, -, k3, -⟩ := shx
  exact ⟨x0, x1, k3, (sh.op (o := o) (by omega)).1, c1, c2, c3, c4⟩
theorem ws114 (hC : SC (wS S l) I T) (hE : okE (yE S)) (ho : o ≤ eN (yE S) + 1) (hl : l.length < 80) : ∃ I' T', f_x_writeStage_114 0 (20 + 33 * o) ((I, T) : Mem) = some ((I', T') : Mem) ∧ SC (wS S (l ++ pD (eP (yE S) o))) I' T' ∧ KP I T I' T' := by
  obtain ⟨x0, x1, k3, k1, c1, c2, c3, c4⟩ := cfg (S := wS S l) hC ho hE.1
  have c4' : I (20 + 33 * o) 9 = nI (eP (yE S) o) := c4
  have p3 := hE.p3 ho
  unfold f_x_writeStage_114 pD
  rw [gI_t k1, c4']
  by_cases hp : 1 < eP (yE S) o
  · obtain ⟨I1, T1, e1, C1, K1⟩ := w_num (x := nI (eP (yE S) o)) hC hE hl (by rw [nI_toInt (by omega)]; omega) (by rw [nI_toInt (by omega)]; omega)
    rw [num_1 p3] at C1
    rw [if_pos hp, if_neg (fun z => by have := (nI_leI (b := 1) (by omega) (by omega)).mp z; omega), gA_t x0, x1, onR_s, gI_t k1, c4', ck_t k3, e1, cR_x, onR_s]
    exact ⟨I1, T1, rfl, C1, K1⟩
  · rw [if_neg hp, if_pos (show nI (eP (yE S) o) ≤ (1 : Int32) from (nI_leI (b := 1) (by omega) (by omega)).mpr (by omega)), List.append_nil]
    exact ⟨I, T, rfl, hC, KP_rf⟩
theorem ws104 (hC : SC (wS S l) I T) (hE : okE (yE S)) (ho : o ≤ eN (yE S) + 1) (hl : l.length < 79) : ∃ I' T', f_x_writeStage_104 0 (20 + 33 * o) ((I, T) : Mem) = some ((I', T') : Mem) ∧ SC (wS S (l ++ ([nI 41] ++ pD (eP (yE S) o)))) I' T' ∧ KP I T I' T' := by
  obtain ⟨x0, x1, k3, k1, -⟩ := cfg (S := wS S l) hC ho hE.1
  obtain ⟨I1, T1, e1, C1, K1⟩ := w_app (c := 41) hC hE (by omega) (by omega)
  obtain ⟨I2, T2, e2, C2, K2⟩ := ws114 C1 hE ho (by rw [List.length_append, List.length_singleton]; omega)
  rw [List.append_assoc] at C2
  refine ⟨I2, T2, ?_, C2, KP_tr K1 K2⟩
  unfold f_x_writeStage_104
  rw [gA_t x0, x1, onR_s, ck_t k3, show (41 : Int32) = nI 41 from rfl, e1, cR_x, onR_s, e2]
theorem st_let : ∀ m : Fin 7, (inR (nI m.val) (oldB 4).length = true ∧ (oldB 4).getD (nI m.val).toNatClampNeg 0 = nI (ltr m.val)) ∧ (decide (nI m.val < (0 : Int32)) = false ∧ decide (nI m.val < (7 : Int32)) = true) := by decide +kernel
theorem st_char {m : Nat} (hm : m < 7) (M : Mem) : f_st_charAt (nI m) M = some (nI (ltr m), M) := by
  obtain ⟨⟨t1, t2⟩, t3, t4⟩ := st_let ⟨m, hm⟩
  simp only at t1 t2 t3 t4
  have hch := (ch128 ⟨ltr m, ltr_lt m⟩).1
  simp only at hch
  have eO : ∀ {α : Type} (k : Int32 → Option α), aO 4 (nI m) k = k (nI (ltr m)) := fun k => (if_pos ⟨Or.inr (Or.inr rfl), t1⟩).trans (by rw [t2])
  unfold f_st_charAt f_st_isLatin1 f_sl_charAt f_st_checkIndex f_pc_checkIndex
  rw [cI_x, if_neg (show ¬ (1 : Int32) = 0 by decide), if_neg (of_decide_eq_false t3), if_pos (of_decide_eq_true t4), cI_x, cV_x, eO, hch, nrZ_c (ltr_lt m), cI_x, nrZ_c (ltr_lt m)]
theorem nums_of {m : Nat} (hm : m < 7) (M : Mem) : f_x_numbersOf (nI m) M = some (nI (if m < 3 then 2 else if m < 5 then 1 else 0), M) := by
  rcases (by omega : m = 0 ∨ m = 1 ∨ m = 2 ∨ m = 3 ∨ m = 4 ∨ m = 5 ∨ m = 6) with rfl | rfl | rfl | rfl | rfl | rfl | rfl <;> rfl
theorem ws_stage (hC : SC (wS S l) I T) (hE : okE (yE S)) (hB : okB (yE S)) (h1 : 1 ≤ o) (ho : o ≤ eN (yE S)) (hl : l.length ≤ 66) : ∃ I' T', f_x_writeStage 0 (some (20 + 33 * o)) ((I, T) : Mem) = some ((I', T') : Mem) ∧ SC (wS S (l ++ stg (yE S) o)) I' T' ∧ KP I T I' T' := by
  have n4 := hE.1
  have hk7 := hE.2.2.2.2.2.1 o h1 ho
  obtain ⟨⟨a1, a2⟩, b1, b2⟩ := hB o h1 ho
  have ho' : o ≤ eN (yE S) + 1 := by omega
  obtain ⟨x0, x1, k3, k1, c1, c2, c3, c4⟩ := cfg (S := wS S l) hC ho' n4
  have c1' : I (20 + 33 * o) 6 = nI (eK (yE S) o) := c1
  obtain ⟨I1, T1, e1, C1, K1⟩ := w_app (c := ltr (eK (yE S) o)) hC hE (by omega) (ltr_lt _)
  obtain ⟨y0, y1, q3, q1, d1, d2, d3, d4⟩ := cfg (S := wS S (l ++ [nI (ltr (eK (yE S) o))])) C1 ho' n4
  have d1' : I1 (20 + 33 * o) 6 = nI (eK (yE S) o) := d1
  have hst : f_st_length ((I, T) : Mem) = some (7, ((I, T) : Mem)) := by
    unfold f_st_length f_st_coder
    rw [cI_x, show ((7 : Int32) >>> ((0 : Int32) &&& (31 : Int32))) = 7 by decide]
  have l1 : (l ++ [nI (ltr (eK (yE S) o))]).length = l.length + 1 := by rw [List.length_append]; rfl
  unfold f_x_writeStage
  rw [onR_s, gI_t k1, c1', if_neg (fun z => by have := (nI_ltI (b := 0) (by omega) (by omega)).mp z; omega), gI_t k1, c1', hst, cI_x, if_pos (show nI (eK (yE S) o) < (7 : Int32) from (nI_ltI (b := 7) (by omega) (by omega)).mpr hk7), gA_t x0, x1, onR_s, gI_t k1, c1', st_char hk7, cI_x, ck_t k3, e1, cR_x, onR_s, gI_t q1, d1', nums_of hk7, cI_x]
  unfold stg stgN
  by_cases h5 : eK (yE S) o < 5
  case neg =>
    obtain ⟨I2, T2, e2, C2, K2⟩ := ws114 C1 hE ho' (by omega)
    rw [if_neg (show ¬ eK (yE S) o < 3 by omega), if_neg h5, if_neg h5, if_pos (show nI 0 ≤ (0 : Int32) by decide)]
    rw [List.append_assoc] at C2
    exact ⟨I2, T2, e2, C2, KP_tr K1 K2⟩
  obtain ⟨I2, T2, e2, C2, K2⟩ := w_app (c := 40) C1 hE (by omega) (by omega)
  obtain ⟨z0, z1, r3, r1, -, f2, -⟩ := cfg (S := wS S ((l ++ [nI (ltr (eK (yE S) o))]) ++ [nI 40])) C2 ho' n4
  have f2' : I2 (20 + 33 * o) 7 = eA (yE S) o := f2
  have l2 : ((l ++ [nI (ltr (eK (yE S) o))]) ++ [nI 40]).length = l.length + 2 := by rw [List.length_append, l1]; rfl
  obtain ⟨I3, T3, e3, C3, K3⟩ := w_num (x := eA (yE S) o) C2 hE (by omega) a1 a2
  obtain ⟨u0, u1, s3, s1, -⟩ := cfg (S := wS S (((l ++ [nI (ltr (eK (yE S) o))]) ++ [nI 40]) ++ numL (eA (yE S) o))) C3 ho' n4
  have la := num_len (x := eA (yE S) o)
  have l3 : (((l ++ [nI (ltr (eK (yE S) o))]) ++ [nI 40]) ++ numL (eA (yE S) o)).length ≤ l.length + 5 := by rw [List.length_append, l2]; omega
  rw [if_pos h5]
  by_cases h3 : eK (yE S) o < 3
  case neg =>
    obtain ⟨I4, T4, e4, C4, K4⟩ := ws104 C3 hE ho' (by omega)
    rw [if_neg h3, if_pos h5, if_neg h3, if_neg (show ¬ nI 1 ≤ (0 : Int32) by decide), gA_t y0, y1, onR_s, ck_t q3, show (40 : Int32) = nI 40 from rfl, e2, cR_x, onR_s, gA_t z0, z1, onR_s, gI_t r1, f2', ck_t r3, e3, cR_x, onR_s, if_pos (show nI 1 ≤ (1 : Int32) by decide), e4]
    refine ⟨I4, T4, rfl, ?_, KP_tr K1 (KP_tr K2 (KP_tr K3 K4))⟩
    simp only [List.append_assoc, List.nil_append] at C4 ⊢
    exact C4
  obtain ⟨I4, T4, e4, C4, K4⟩ := w_app (c := 44) C3 hE (by omega) (by omega)
  obtain ⟨v0, v1, t3, t1, -, -, g3, -⟩ := cfg (S := wS S ((((l ++ [nI (ltr (eK (yE S) o))]) ++ [nI 40]) ++ numL (eA (yE S) o)) ++ [nI 44])) C4 ho' n4
  have g3' : I4 (20 + 33 * o) 8 = eB (yE S) o := g3
  have l4 : ((((l ++ [nI (ltr (eK (yE S) o))]) ++ [nI 40]) ++ numL (eA (yE S) o)) ++ [nI 44]).length ≤ l.length + 6 := by rw [List.length_append, List.length_singleton]; omega
  obtain ⟨I5, T5, e5, C5, K5⟩ := w_num (x := eB (yE S) o) C4 hE (by omega) b1 b2
  have lb := num_len (x := eB (yE S) o)
  obtain ⟨I6, T6, e6, C6, K6⟩ := ws104 C5 hE ho' (by rw [List.length_append]; omega)
  rw [if_pos h3, if_pos h5, if_pos h3, if_neg (show ¬ nI 2 ≤ (0 : Int32) by decide), gA_t y0, y1, onR_s, ck_t q3, show (40 : Int32) = nI 40 from rfl, e2, cR_x, onR_s, gA_t z0, z1, onR_s, gI_t r1, f2', ck_t r3, e3, cR_x, onR_s, if_neg (show ¬ nI 2 ≤ (1 : Int32) by decide), gA_t u0, u1, onR_s, ck_t s3, show (44 : Int32) = nI 44 from rfl, e4, cR_x, onR_s, gA_t v0, v1, onR_s, gI_t t1, g3', ck_t t3, e5, cR_x, onR_s, e6]
  refine ⟨I6, T6, rfl, ?_, KP_tr K1 (KP_tr K2 (KP_tr K3 (KP_tr K4 (KP_tr K5 K6))))⟩
  simp only [List.append_assoc] at C6 ⊢
  exact C6
theorem xw_end (hC : SC (wS S l) I T) : f_x_write_95 0 ((I, T) : Mem) = some (nI l.length, ((I, T) : Mem)) := by
  obtain ⟨sh, shx, -, -, -, -, -, hW, -⟩ := hC
  have hW' : SbC I T 3 l := hW
  obtain ⟨x0, -, x1, -, -, -, -, -, k3, -⟩ := shx
  unfold f_x_write_95
  rw [gA_t x0, x1, onR_s, ck_t k3, sb_length k3 hW', cI_x]
theorem xw_loop (hE : okE (yE S)) (hB : okB (yE S)) : ∀ (d n o : Nat) (l : List Int32) (I : Iw) (T : Tl), o + d = eN (yE S) + 1 → 1 ≤ o → d < n → SC (wS S l) I T → l.length + (12 * d + 2) ≤ 70 → ∃ I' T', f_x_write_10 n 0 (nI o) ((I, T) : Mem) = some (nI (l ++ wrF (yE S) d o).length, ((I', T') : Mem)) ∧ SC (wS S (l ++ wrF (yE S) d o)) I' T' ∧ KP I T I' T'
  | d, 0, o, l, I, T, _, _, hn, _, _ => by omega
  | 0, n + 1, o, l, I, T, ho, h1, hn, hC, hl => by
    have n4 := hE.1
    have hC' := hC
    obtain ⟨sh, shx, -, -, -, ⟨g, hCT⟩, -⟩ := hC
    obtain ⟨x0, -, x1, -, x3, -, -, -, k3, -⟩ := shx
    have ksm := sh.1
    have hst : I 10 5 = nI (eN (yE S)) := hCT.1.1
    have e0 := sm_sizeOf (T := T) (o := eN (yE S) + 1) (E := yE S) sh hCT.1 n4 (by omega)
    rw [if_pos (Nat.le_refl _)] at e0
    have p3 := hE.p3 (o := eN (yE S) + 1) (Nat.le_refl _)
    unfold f_x_write_10 wrF
    rw [gA_t x0, x3, onR_s, gI_t ksm, hst, if_pos (show nI (eN (yE S)) < nI o from (nI_ltI (by omega) (by omega)).mpr (by omega)), gA_t x0, x3, onR_s, gA_t x0, x3, onR_s, gI_t ksm, hst, ck_t ksm, show nI (eN (yE S)) + (1 : Int32) = nI (eN (yE S) + 1) from nI_1 _, e0, cI_x]
    by_cases hp : 1 < eP (yE S) (eN (yE S) + 1)
    · obtain ⟨I1, T1, e1, C1, K1⟩ := w_app (c := 36) hC' hE (by omega) (by omega)
      obtain ⟨y0, y1, q3, -⟩ := cfg (S := wS S (l ++ [nI 36])) (o := 0) C1 (Nat.zero_le _) n4
      obtain ⟨I2, T2, e2, C2, K2⟩ := w_num (x := nI (eP (yE S) (eN (yE S) + 1))) C1 hE (by rw [List.length_append, List.length_singleton]; omega) (by rw [nI_toInt (by omega)]; omega) (by rw [nI_toInt (by omega)]; omega)
      rw [num_1 p3, List.append_assoc] at C2
      rw [if_pos hp, if_neg (fun z => by have := (nI_leI (b := 1) (by omega) (by omega)).mp z; omega), gA_t x0, x1, onR_s, ck_t k3, show (36 : Int32) = nI 36 from rfl, e1, cR_x, onR_s, gA_t y0, y1, onR_s, ck_t q3, e2, cR_x, onR_s, xw_end C2]
      exact ⟨I2, T2, rfl, C2, KP_tr K1 K2⟩
    · rw [if_neg hp, if_pos (show nI (eP (yE S) (eN (yE S) + 1)) ≤ (1 : Int32) from (nI_leI (b := 1) (by omega) (by omega)).mpr (by omega)), List.append_nil, xw_end hC']
      exact ⟨I, T, rfl, hC', KP_rf⟩
  | d + 1, n + 1, o, l, I, T, ho, h1, hn, hC, hl => by
    have n4 := hE.1
    have hol : o ≤ eN (yE S) := by omega
    have hC' := hC
    obtain ⟨sh, shx, -, -, -, ⟨g, hCT⟩, -⟩ := hC
    obtain ⟨x0, -, x1, -, x3, -, -, -, k3, -⟩ := shx
    have ksm := sh.1
    have hst : I 10 5 = nI (eN (yE S)) := hCT.1.1
    have sl := (stg_ok hE hB h1 hol).1
    -- a stage, and what follows
    have rest : ∀ (l' : List Int32) (I1 : Iw) (T1 : Tl), SC (wS S l') I1 T1 → l'.length ≤ l.length + 1 → ∃ I' T', f_x_write_36 (f_x_write_10 n) 0 (nI o) ((I1, T1) : Mem) = some (nI (l' ++ (stg (yE S) o ++ wrF (yE S) d (o + 1))).length, ((I', T') : Mem)) ∧ SC (wS S (l' ++ (stg (yE S) o ++ wrF (yE S) d (o + 1)))) I' T' ∧ KP I1 T1 I' T' := fun l' I1 T1 C1 hl' => by
      obtain ⟨I2, T2, e2, C2, K2⟩ := ws_stage C1 hE hB h1 hol (by omega)
      obtain ⟨I3, T3, e3, C3, K3⟩ := xw_loop hE hB d n (o + 1) (l' ++ stg (yE S) o) I2 T2 (by omega) (by omega) (by omega) C2 (by rw [List.length_append]; omega)
      rw [List.append_assoc] at e3 C3
      obtain ⟨sh1, shx1, -, -, -, ⟨g1, hCT1⟩, -⟩ := C1
      obtain ⟨y0, -, -, -, y3, -⟩ := shx1
      have ksm1 := sh1.1
      have e0 := sm_opAt (T := T1) (o := o) (E := yE S) sh1 hCT1.1 n4 (by omega)
      rw [if_pos (by omega)] at e0
      refine ⟨I3, T3, ?_, C3, KP_tr K2 K3⟩
      unfold f_x_write_36
      rw [gA_t y0, y3, onR_s, ck_t ksm1, e0, cR_x, onR_s, ck_t y0, e2, cV_x, show nI o + (1 : Int32) = nI (o + 1) from nI_1 _, e3]
    unfold f_x_write_10 wrF
    rw [gA_t x0, x3, onR_s, gI_t ksm, hst, if_neg (show ¬ nI (eN (yE S)) < nI o from fun z => by have := (nI_ltI (by omega) (by omega)).mp z; omega)]
    by_cases h1o : 1 < o
    · obtain ⟨I1, T1, e1, C1, K1⟩ := w_app (c := 124) hC' hE (by omega) (by omega)
      obtain ⟨I2, T2, e2, C2, K2⟩ := rest (l ++ [nI 124]) I1 T1 C1 (by rw [List.length_append, List.length_singleton]; exact Nat.le_refl _)
      rw [List.append_assoc] at e2 C2
      rw [if_pos h1o, if_neg (fun z => by have := (nI_leI (b := 1) (by omega) (by omega)).mp z; omega), gA_t x0, x1, onR_s, ck_t k3, show (124 : Int32) = nI 124 from rfl, e1, cR_x, onR_s, e2]
      exact ⟨I2, T2, rfl, C2, KP_tr K1 K2⟩
    · obtain ⟨I2, T2, e2, C2, K2⟩ := rest l I T hC' (Nat.le_succ _)
      rw [if_neg h1o, if_pos (show nI o ≤ (1 : Int32) from (nI_leI (b := 1) (by omega) (by omega)).mpr (by omega)), List.nil_append, e2]
      exact ⟨I2, T2, rfl, C2, K2⟩
theorem x_write (hC : SC S I T) (h : PD S k) : ∃ I' T', f_x_write 0 ((I, T) : Mem) = some ((yWrite S).1, ((I', T') : Mem)) ∧ SC (yWrite S).2 I' T' ∧ KP I T I' T' := by
  have hE := h.1.1
  have n4 := hE.1
  have hRm := SC_RmP hC
  have hC' := hC
  obtain ⟨sh, shx, h550, -, -, -, hT, hW, -⟩ := hC
  obtain ⟨x0, -, x1, -, -, -, -, -, k3, -⟩ := shx
  obtain ⟨I1, e1, S1, G1⟩ := sb_clr k3 hW (by have := h.2.2.2.1.1; omega)
  obtain ⟨C1, K1⟩ := SC_gr (Or.inr rfl) hC' hE hW G1 (SbC_gr (by omega) (Or.inl rfl) (Or.inr rfl) h550 hRm hT hW G1) S1
  obtain ⟨I2, T2, e2, C2, K2⟩ := xw_loop (S := S) hE h.2.1 (eN (yE S)) FU 1 [] I1 T (by omega) (Nat.le_refl _) (by unfold FU; omega) C1 (by rw [List.length_nil]; omega)
  rw [List.nil_append] at e2 C2
  refine ⟨I2, T2, ?_, C2, KP_tr K1 K2⟩
  unfold f_x_write
  rw [gA_t x0, x1, onR_s, ck_t k3, e1, cV_x, show (1 : Int32) = nI 1 from rfl, e2]
  rfl
-- the reference
theorem mw_1 (sh : shM T) (hC : SM (wS S l) I T) (hl : l.length < 80) (v : Int32) : ∃ I', f_m_writes 492 v ((I, T) : Mem) = some ((I', T) : Mem) ∧ SM (wS S (l ++ [v])) I' T ∧ MF I T I' T := by
  obtain ⟨h1, h2, h3, h4⟩ := hC
  obtain ⟨w1, w2⟩ := h3
  have w1' : I 492 80 = nI l.length := w1
  have w2' : ∀ j (h : j < l.length), I 549 j = l[j] := w2
  obtain ⟨I1, hI1⟩ : ∃ I1, I1 = u2 (u2 I 549 l.length v) 492 80 (nI (l.length + 1)) := ⟨_, rfl⟩
  have f : ∀ a, a ≠ 492 → a ≠ 549 → I1 a = I a := fun a a1 a2 => by rw [hI1, u2_ne a1, u2_ne a2]
  have fj : ∀ j, j ≠ 80 → I1 492 j = I 492 j := fun j hj => by rw [hI1, u2_nj rfl hj, u2_ne (by omega)]
  have f549 : I1 549 = u2 I 549 l.length v 549 := by rw [hI1, u2_ne (by omega)]
  have hlen : (l ++ [v]).length = l.length + 1 := by rw [List.length_append]; rfl
  have hW2 : WrM I1 (l ++ [v]) := by
    refine ⟨by rw [hlen, hI1]; exact u2_at rfl rfl, fun j hj => ?_⟩
    rw [f549]
    by_cases hz : j = l.length
    · subst hz
      rw [u2_at rfl rfl]
      simp only [List.getElem_concat_length]
    · have hj2 : j < l.length := by omega
      rw [u2_nj rfl hz, List.getElem_append_left hj2]
      exact w2' j hj2
  refine ⟨I1, ?_, ⟨MR_k h1 (fun a a1 a2 => f a (by omega) (by omega)) (fun j a1 a2 => fj j (by omega)), ?_, hW2, ?_⟩, MF_row (fun a ha => f a (by omega) (by omega))⟩
  · have e1 : (u2 I 549 l.length v) 492 80 = nI l.length := by rw [u2_ne (by omega)]; exact w1'
    unfold f_m_writes
    rw [sh.g79, sh.gI, w1', sh.s549 (by omega), sh.gI, e1, show nI l.length + (1 : Int32) = nI (l.length + 1) from nI_1 _, sh.pI, ← hI1]
  · show TxM I1 (yT S)
    have h2' : TxM I (yT S) := h2
    unfold TxM at h2' ⊢
    rw [fj 1 (by omega), f 493 (by omega) (by omega)]
    exact h2'
  · show ExM I1 (yX S)
    have h4' : ExM I (yX S) := h4
    unfold ExM at h4' ⊢
    rw [fj 77 (by omega), f 547 (by omega) (by omega), f 548 (by omega) (by omega)]
    exact h4'
theorem mw_num (sh : shM T) {x : Int32} (hC : SM (wS S l) I T) (hl : l.length < 77) (h1 : -99 ≤ x.toInt) (h2 : x.toInt ≤ 99) : ∃ I', f_m_writesNumber 492 x ((I, T) : Mem) = some ((I', T) : Mem) ∧ SM (wS S (l ++ numL x)) I' T ∧ MF I T I' T := by
  obtain ⟨xn, xp⟩ := x_abs h1 h2
  obtain ⟨m, hm⟩ : ∃ m, m = x.toInt.natAbs := ⟨_, rfl⟩
  rw [← hm] at xn xp
  have hm99 : m < 100 := by omega
  have t5 := (neg100 ⟨m, hm99⟩).2.2.2.2
  simp only at t5
  have e38 : ∀ (l' : List Int32) (J : Iw), SM (wS S l') J T → l'.length < 80 → ∃ I', f_m_writesNumber_38 492 (nI m) ((J, T) : Mem) = some ((I', T) : Mem) ∧ SM (wS S (l' ++ [nI (48 + m % 10)])) I' T ∧ MF J T I' T := fun l' J C hl' => by
    obtain ⟨I1, e1, C1, K1⟩ := mw_1 sh C hl' (nI (48 + m % 10))
    refine ⟨I1, ?_, C1, K1⟩
    unfold f_m_writesNumber_38
    rw [show (10 : Int32) = nI 10 from rfl, rmI_t (by omega) (by omega) (by omega), sh.ck, show (48 : Int32) + nI (m % 10) = nI (48 + m % 10) from nI_add 48 _, e1, cV_x]
  have e20 : ∀ (l' : List Int32) (J : Iw), SM (wS S l') J T → l'.length < 78 → ∃ I', f_m_writesNumber_20 492 (nI m) ((J, T) : Mem) = some ((I', T) : Mem) ∧ SM (wS S (l' ++ ((if 10 ≤ m then [nI (48 + m / 10)] else []) ++ [nI (48 + m % 10)]))) I' T ∧ MF J T I' T := fun l' J C hl' => by
    unfold f_m_writesNumber_20
    by_cases h10 : 10 ≤ m
    · obtain ⟨I1, e1, C1, K1⟩ := mw_1 sh C (by omega) (nI (48 + m / 10))
      obtain ⟨I2, e2, C2, K2⟩ := e38 _ I1 C1 (by rw [List.length_append, List.length_singleton]; omega)
      rw [List.append_assoc] at C2
      rw [if_pos h10, if_neg (fun z => by have := (nI_leI (b := 9) (by omega) (by omega)).mp z; omega), show (10 : Int32) = nI 10 from rfl, dvI_t (by omega) (by omega) (by omega), sh.ck, show (48 : Int32) + nI (m / 10) = nI (48 + m / 10) from nI_add 48 _, e1, cV_x, e2]
      exact ⟨I2, rfl, C2, MF_tr K1 K2⟩
    · obtain ⟨I2, e2, C2, K2⟩ := e38 _ J C (by omega)
      rw [if_neg h10, if_pos (show nI m ≤ (9 : Int32) from (nI_leI (b := 9) (by omega) (by omega)).mpr (by omega)), List.nil_append, e2]
      exact ⟨I2, rfl, C2, K2⟩
  unfold f_m_writesNumber f_m_writesNumber_10 numL
  rw [← hm]
  by_cases hx : x < 0
  · have hx2 : ¬ (0 : Int32) ≤ x := Int32.not_le.mpr hx
    obtain ⟨I1, e1, C1, K1⟩ := mw_1 sh hC (by omega) (nI 45)
    obtain ⟨I2, e2, C2, K2⟩ := e20 _ I1 C1 (by rw [List.length_append, List.length_singleton]; omega)
    rw [List.append_assoc] at C2
    have hneg : -x = nI m := by rw [xn hx, t5]
    rw [if_pos hx, if_neg hx2, sh.ck, show (45 : Int32) = nI 45 from rfl, e1, cV_x, if_neg hx2, hneg, e2]
    exact ⟨I2, rfl, C2, MF_tr K1 K2⟩
  · have hx2 : (0 : Int32) ≤ x := Int32.not_lt.mp hx
    obtain ⟨I2, e2, C2, K2⟩ := e20 _ I hC (by omega)
    rw [if_neg hx, List.nil_append, if_pos hx2, if_pos hx2]
    rw [← xp hx] at e2
    exact ⟨I2, e2, C2, K2⟩
theorem mw_151 (sh : shM T) (hE : okE (yE S)) (ho : o ≤ eN (yE S)) (k7 : Nat → Int32 → Mem → Option (Int32 × Mem)) (hC : SM (wS S l) I T) (hl : l.length < 80) : ∃ I', f_m_write_151 k7 492 (nI o) ((I, T) : Mem) = k7 492 (nI (o + 1)) ((I', T) : Mem) ∧ SM (wS S (l ++ pD (eP (yE S) o))) I' T ∧ MF I T I' T := by
  have n4 := hE.1
  have p3 := hE.p3 (o := o) (by omega)
  have c4 : I 497 o = nI (eP (yE S) o) := (hC.1.1.op (o := o) (show o ≤ eN (yE S) + 1 by omega)).2.2.2
  unfold f_m_write_151 f_m_write_174 pD
  rw [sh.g6, sh.a497 (by omega), c4, show nI o + (1 : Int32) = nI (o + 1) from nI_1 _]
  by_cases hp : 1 < eP (yE S) o
  · obtain ⟨I1, e1, C1, K1⟩ := mw_1 sh hC hl (nI (48 + eP (yE S) o))
    rw [if_pos hp, if_neg (fun z => by have := (nI_leI (b := 1) (by omega) (by omega)).mp z; omega), sh.g6, sh.a497 (by omega), c4, sh.ck, show (48 : Int32) + nI (eP (yE S) o) = nI (48 + eP (yE S) o) from nI_add 48 _, e1, cV_x]
    exact ⟨I1, rfl, C1, K1⟩
  · rw [if_neg hp, if_pos (show nI (eP (yE S) o) ≤ (1 : Int32) from (nI_leI (b := 1) (by omega) (by omega)).mpr (by omega)), List.append_nil]
    exact ⟨I, rfl, hC, MF_rf⟩
theorem mw_stage (sh : shM T) (hE : okE (yE S)) (hB : okB (yE S)) (h1 : 1 ≤ o) (ho : o ≤ eN (yE S)) (k7 : Nat → Int32 → Mem → Option (Int32 × Mem)) (hC : SM (wS S l) I T) (hl : l.length ≤ 66) : ∃ I', f_m_write_33 k7 492 (nI o) (nI (eK (yE S) o)) ((I, T) : Mem) = k7 492 (nI (o + 1)) ((I', T) : Mem) ∧ SM (wS S (l ++ stg (yE S) o)) I' T ∧ MF I T I' T := by
  have n4 := hE.1
  have hk7 := hE.2.2.2.2.2.1 o h1 ho
  obtain ⟨⟨a1, a2⟩, b1, b2⟩ := hB o h1 ho
  have e33 : f_m_write_33 k7 492 (nI o) (nI (eK (yE S) o)) ((I, T) : Mem) = f_m_write_95 k7 492 (nI o) (nI (eK (yE S) o)) (nI (ltr (eK (yE S) o))) 492 ((I, T) : Mem) := by
    unfold f_m_write_33
    rcases (by omega : eK (yE S) o = 0 ∨ eK (yE S) o = 1 ∨ eK (yE S) o = 2 ∨ eK (yE S) o = 3 ∨ eK (yE S) o = 4 ∨ eK (yE S) o = 5 ∨ eK (yE S) o = 6) with e | e | e | e | e | e | e
    · rw [e, if_pos (show nI 0 = (0 : Int32) by decide)]; rfl
    · rw [e, if_neg (show ¬ nI 1 = (0 : Int32) by decide), if_pos (show nI 1 = (1 : Int32) by decide)]; rfl
    · rw [e, if_neg (show ¬ nI 2 = (0 : Int32) by decide), if_neg (show ¬ nI 2 = (1 : Int32) by decide), if_pos (show nI 2 = (2 : Int32) by decide)]; rfl
    · rw [e, if_neg (show ¬ nI 3 = (0 : Int32) by decide), if_neg (show ¬ nI 3 = (1 : Int32) by decide), if_neg (show ¬ nI 3 = (2 : Int32) by decide), if_pos (show nI 3 = (3 : Int32) by decide)]; rfl
    · rw [e, if_neg (show ¬ nI 4 = (0 : Int32) by decide), if_neg (show ¬ nI 4 = (1 : Int32) by decide), if_neg (show ¬ nI 4 = (2 : Int32) by decide), if_neg (show ¬ nI 4 = (3 : Int32) by decide), if_pos (show nI 4 = (4 : Int32) by decide)]; rfl
    · rw [e, if_neg (show ¬ nI 5 = (0 : Int32) by decide), if_neg (show ¬ nI 5 = (1 : Int32) by decide), if_neg (show ¬ nI 5 = (2 : Int32) by decide), if_neg (show ¬ nI 5 = (3 : Int32) by decide), if_neg (show ¬ nI 5 = (4 : Int32) by decide), if_pos (show nI 5 = (5 : Int32) by decide)]; rfl
    · rw [e, if_neg (show ¬ nI 6 = (0 : Int32) by decide), if_neg (show ¬ nI 6 = (1 : Int32) by decide), if_neg (show ¬ nI 6 = (2 : Int32) by decide), if_neg (show ¬ nI 6 = (3 : Int32) by decide), if_neg (show ¬ nI 6 = (4 : Int32) by decide), if_neg (show ¬ nI 6 = (5 : Int32) by decide)]; rfl
  rw [e33]
  obtain ⟨I1, e1, C1, K1⟩ := mw_1 sh hC (by omega) (nI (ltr (eK (yE S) o)))
  have l1 : (l ++ [nI (ltr (eK (yE S) o))]).length = l.length + 1 := by rw [List.length_append]; rfl
  unfold f_m_write_95
  rw [sh.ck, e1, cV_x]
  unfold stg stgN
  by_cases h5 : eK (yE S) o < 5
  case neg =>
    obtain ⟨I2, e2, C2, K2⟩ := mw_151 sh hE ho k7 C1 (by omega)
    rw [if_pos (show (5 : Int32) ≤ nI (eK (yE S) o) from (nI_leI (a := 5) (by omega) (by omega)).mpr (by omega)), if_neg h5, e2]
    rw [List.append_assoc] at C2
    exact ⟨I2, rfl, C2, MF_tr K1 K2⟩
  obtain ⟨I2, e2, C2, K2⟩ := mw_1 sh C1 (by omega) (nI 40)
  have l2 : ((l ++ [nI (ltr (eK (yE S) o))]) ++ [nI 40]).length = l.length + 2 := by rw [List.length_append, l1]; rfl
  have f2 : I2 495 o = eA (yE S) o := (C2.1.1.op (o := o) (show o ≤ eN (yE S) + 1 by omega)).2.1
  obtain ⟨I3, e3, C3, K3⟩ := mw_num sh (x := eA (yE S) o) C2 (by omega) a1 a2
  have la := num_len (x := eA (yE S) o)
  have l3 : (((l ++ [nI (ltr (eK (yE S) o))]) ++ [nI 40]) ++ numL (eA (yE S) o)).length ≤ l.length + 5 := by rw [List.length_append, l2]; omega
  rw [if_neg (show ¬ (5 : Int32) ≤ nI (eK (yE S) o) from fun z => by have := (nI_leI (a := 5) (by omega) (by omega)).mp z; omega), if_pos h5, sh.ck, show (40 : Int32) = nI 40 from rfl, e2, cV_x, sh.g4, sh.a495 (by omega), f2, sh.ck, e3, cV_x]
  by_cases h3 : eK (yE S) o < 3
  case neg =>
    have h3' : (3 : Int32) ≤ nI (eK (yE S) o) := (nI_leI (a := 3) (by omega) (by omega)).mpr (by omega)
    obtain ⟨I4, e4, C4, K4⟩ := mw_1 sh C3 (by omega) (nI 41)
    obtain ⟨I5, e5, C5, K5⟩ := mw_151 sh hE ho k7 C4 (by rw [List.length_append, List.length_singleton]; omega)
    rw [if_pos h3', if_neg h3]
    unfold f_m_write_130 f_m_write_145
    rw [if_pos h3', sh.ck, show (41 : Int32) = nI 41 from rfl, e4, cV_x, e5]
    refine ⟨I5, rfl, ?_, MF_tr K1 (MF_tr K2 (MF_tr K3 (MF_tr K4 K5)))⟩
    simp only [List.append_assoc, List.nil_append] at C5 ⊢
    exact C5
  have h3' : ¬ (3 : Int32) ≤ nI (eK (yE S) o) := fun z => by have := (nI_leI (a := 3) (by omega) (by omega)).mp z; omega
  obtain ⟨I4, e4, C4, K4⟩ := mw_1 sh C3 (by omega) (nI 44)
  have l4 : ((((l ++ [nI (ltr (eK (yE S) o))]) ++ [nI 40]) ++ numL (eA (yE S) o)) ++ [nI 44]).length ≤ l.length + 6 := by rw [List.length_append, List.length_singleton]; omega
  have g3 : I4 496 o = eB (yE S) o := (C4.1.1.op (o := o) (show o ≤ eN (yE S) + 1 by omega)).2.2.1
  obtain ⟨I5, e5, C5, K5⟩ := mw_num sh (x := eB (yE S) o) C4 (by omega) b1 b2
  have lb := num_len (x := eB (yE S) o)
  have l5 : (((((l ++ [nI (ltr (eK (yE S) o))]) ++ [nI 40]) ++ numL (eA (yE S) o)) ++ [nI 44]) ++ numL (eB (yE S) o)).length ≤ l.length + 9 := by rw [List.length_append]; omega
  obtain ⟨I6, e6, C6, K6⟩ := mw_1 sh C5 (by omega) (nI 41)
  obtain ⟨I7, e7, C7, K7⟩ := mw_151 sh hE ho k7 C6 (by rw [List.length_append, List.length_singleton]; omega)
  rw [if_neg h3', if_pos h3, sh.ck, show (44 : Int32) = nI 44 from rfl, e4, cV_x]
  unfold f_m_write_130 f_m_write_145
  rw [if_neg h3', sh.g5, sh.a496 (by omega), g3, sh.ck, e5, cV_x, sh.ck, show (41 : Int32) = nI 41 from rfl, e6, cV_x, e7]
  refine ⟨I7, rfl, ?_, MF_tr K1 (MF_tr K2 (MF_tr K3 (MF_tr K4 (MF_tr K5 (MF_tr K6 K7)))))⟩
  simp only [List.append_assoc] at C7 ⊢
  exact C7
theorem mw_loop (sh : shM T) (hE : okE (yE S)) (hB : okB (yE S)) : ∀ (d n o : Nat) (l : List Int32) (I : Iw), o + d = eN (yE S) + 1 → 1 ≤ o → d < n → SM (wS S l) I T → l.length + (12 * d + 2) ≤ 70 → ∃ I', f_m_write_7 n 492 (nI o) ((I, T) : Mem) = some (nI (l ++ wrF (yE S) d o).length, ((I', T) : Mem)) ∧ SM (wS S (l ++ wrF (yE S) d o)) I' T ∧ MF I T I' T
  | d, 0, o, l, I, _, _, hn, _, _ => by omega
  | 0, n + 1, o, l, I, ho, h1, hn, hC, hl => by
    have n4 := hE.1
    have hst : I 492 2 = nI (eN (yE S)) := hC.1.1.1
    have c4 : I 497 (eN (yE S) + 1) = nI (eP (yE S) (eN (yE S) + 1)) := (hC.1.1.op (o := eN (yE S) + 1) (Nat.le_refl _)).2.2.2
    have es := m_sink (T := T) (E := yE S) sh hst
    have p3 := hE.p3 (o := eN (yE S) + 1) (Nat.le_refl _)
    have e228 : ∀ (l' : List Int32) (J : Iw), SM (wS S l') J T → f_m_write_228 492 ((J, T) : Mem) = some (nI l'.length, ((J, T) : Mem)) := fun l' J C => by
      have w1 : J 492 80 = nI l'.length := C.2.2.1.1
      unfold f_m_write_228
      rw [sh.gI, w1]
    unfold f_m_write_7 wrF
    rw [sh.gI, hst, if_pos (show nI (eN (yE S)) < nI o from (nI_ltI (by omega) (by omega)).mpr (by omega)), sh.g6, sh.ck, es, cI_x, sh.a497 (by omega), c4]
    by_cases hp : 1 < eP (yE S) (eN (yE S) + 1)
    · obtain ⟨I1, e1, C1, K1⟩ := mw_1 sh hC (by omega) (nI 36)
      have hst1 : I1 492 2 = nI (eN (yE S)) := C1.1.1.1
      have es1 := m_sink (T := T) (E := yE S) sh hst1
      have c41 : I1 497 (eN (yE S) + 1) = nI (eP (yE S) (eN (yE S) + 1)) := (C1.1.1.op (o := eN (yE S) + 1) (Nat.le_refl _)).2.2.2
      obtain ⟨I2, e2, C2, K2⟩ := mw_1 sh C1 (by rw [List.length_append, List.length_singleton]; omega) (nI (48 + eP (yE S) (eN (yE S) + 1)))
      rw [List.append_assoc] at C2
      have hnp : ¬ nI (eP (yE S) (eN (yE S) + 1)) ≤ (1 : Int32) := fun z => by have := (nI_leI (b := 1) (by omega) (by omega)).mp z; omega
      rw [if_pos hp, if_neg hnp, sh.ck, show (36 : Int32) = nI 36 from rfl, e1, cV_x]
      unfold f_m_write_199
      rw [sh.g6, sh.ck, es1, cI_x, sh.a497 (by omega), c41, if_neg hnp, sh.g6, sh.ck, es1, cI_x, sh.a497 (by omega), c41, sh.ck, show (48 : Int32) + nI (eP (yE S) (eN (yE S) + 1)) = nI (48 + eP (yE S) (eN (yE S) + 1)) from nI_add 48 _, e2, cV_x, e228 _ I2 C2]
      exact ⟨I2, rfl, C2, MF_tr K1 K2⟩
    · have hnp : nI (eP (yE S) (eN (yE S) + 1)) ≤ (1 : Int32) := (nI_leI (b := 1) (by omega) (by omega)).mpr (by omega)
      rw [if_neg hp, if_pos hnp, List.append_nil]
      unfold f_m_write_199
      rw [sh.g6, sh.ck, es, cI_x, sh.a497 (by omega), c4, if_pos hnp, e228 _ I hC]
      exact ⟨I, rfl, hC, MF_rf⟩
  | d + 1, n + 1, o, l, I, ho, h1, hn, hC, hl => by
    have n4 := hE.1
    have hol : o ≤ eN (yE S) := by omega
    have hst : I 492 2 = nI (eN (yE S)) := hC.1.1.1
    have c1 : I 494 o = nI (eK (yE S) o) := (hC.1.1.op (o := o) (show o ≤ eN (yE S) + 1 by omega)).1
    have sl := (stg_ok hE hB h1 hol).1
    unfold f_m_write_7 wrF
    rw [sh.gI, hst, if_neg (show ¬ nI (eN (yE S)) < nI o from fun z => by have := (nI_ltI (by omega) (by omega)).mp z; omega), sh.g3, sh.a494 (by omega), c1]
    by_cases h1o : 1 < o
    · obtain ⟨I1, e1, C1, K1⟩ := mw_1 sh hC (by omega) (nI 124)
      have l1 : (l ++ [nI 124]).length = l.length + 1 := by rw [List.length_append]; rfl
      obtain ⟨I2, e2, C2, K2⟩ := mw_stage sh hE hB h1 hol (f_m_write_7 n) C1 (by omega)
      obtain ⟨I3, e3, C3, K3⟩ := mw_loop sh hE hB d n (o + 1) _ I2 (by omega) (by omega) (by omega) C2 (by rw [List.length_append, l1]; omega)
      rw [List.append_assoc, List.append_assoc] at e3 C3
      rw [if_pos h1o, if_neg (fun z => by have := (nI_leI (b := 1) (by omega) (by omega)).mp z; omega), sh.ck, show (124 : Int32) = nI 124 from rfl, e1, cV_x, e2, e3]
      exact ⟨I3, rfl, C3, MF_tr K1 (MF_tr K2 K3)⟩
    · obtain ⟨I2, e2, C2, K2⟩ := mw_stage sh hE hB h1 hol (f_m_write_7 n) hC (by omega)
      obtain ⟨I3, e3, C3, K3⟩ := mw_loop sh hE hB d n (o + 1) _ I2 (by omega) (by omega) (by omega) C2 (by rw [List.length_append]; omega)
      rw [List.append_assoc] at e3 C3
      rw [if_neg h1o, if_pos (show nI o ≤ (1 : Int32) from (nI_leI (b := 1) (by omega) (by omega)).mpr (by omega)), List.nil_append, e2, e3]
      exact ⟨I3, rfl, C3, MF_tr K2 K3⟩
theorem m_write (sh : shM T) (hC : SM S I T) (h : PD S k) : ∃ I' T', f_m_write 492 ((I, T) : Mem) = some ((yWrite S).1, ((I', T') : Mem)) ∧ SM (yWrite S).2 I' T' ∧ MF I T I' T' := by
  have hE := h.1.1
  have n4 := hE.1
  have f : ∀ a, a ≠ 492 → u2 I 492 80 (nI 0) a = I a := fun a ha => u2_ne ha
  have fj : ∀ j, j ≠ 80 → u2 I 492 80 (nI 0) 492 j = I 492 j := fun j hj => u2_nj rfl hj
  have C0 : SM (wS S []) (u2 I 492 80 (nI 0)) T := by
    refine ⟨MR_k hC.1 (fun a a1 a2 => f a (by omega)) (fun j a1 a2 => fj j (by omega)), ?_, ⟨u2_at rfl rfl, fun j hj => absurd hj (Nat.not_lt_zero _)⟩, ?_⟩
    · show TxM _ (yT S)
      have h2 := hC.2.1
      unfold TxM at h2 ⊢
      rw [fj 1 (by omega), f 493 (by omega)]
      exact h2
    · show ExM _ (yX S)
      have h2 := hC.2.2.2
      unfold ExM at h2 ⊢
      rw [fj 77 (by omega), f 547 (by omega), f 548 (by omega)]
      exact h2
  obtain ⟨I2, e2, C2, K2⟩ := mw_loop (S := S) sh hE h.2.1 (eN (yE S)) FU 1 [] (u2 I 492 80 (nI 0)) (by omega) (Nat.le_refl _) (by unfold FU; omega) C0 (by rw [List.length_nil]; omega)
  rw [List.nil_append] at e2 C2
  refine ⟨I2, T, ?_, C2, MF_tr (MF_f (by omega)) K2⟩
  unfold f_m_write
  rw [sh.pI, show (1 : Int32) = nI 1 from rfl, show (0 : Int32) = nI 0 from rfl, e2]
  rfl
end
