/-! THE CLASS: what a record leads to (handle) -/
theorem fb_rng (x : Int32) : -2147483648 ≤ x.toInt ∧ x.toInt < 2147483648 := by
  have h1 := Int32.le_toInt x
  have h2 := Int32.toInt_lt x
  omega
theorem fb_bmod {z : Int} (h1 : -2147483648 ≤ z) (h2 : z < 2147483648) : z.bmod (2 ^ 32) = z := by
  rw [Int.bmod_eq_of_le (by omega) (by omega)]
theorem rem16 (x : Int32) : (x - x / 16 * 16).toInt = x.toInt.tmod 16 := by
  have hx := fb_rng x
  have e1 : (x / 16).toInt = x.toInt.tdiv 16 := Int32.toInt_div_of_ne_right x 16 (by decide)
  have e2 : x.toInt.tdiv 16 * 16 + x.toInt.tmod 16 = x.toInt := Int.tdiv_mul_add_tmod x.toInt 16
  have e3 : (16 : Int32).toInt = 16 := by decide
  have e4 : -16 < x.toInt.tmod 16 ∧ x.toInt.tmod 16 < 16 := ⟨Int.lt_tmod_of_pos _ (by omega), Int.tmod_lt_of_pos _ (by omega)⟩
  have e5 : (0 ≤ x.toInt → 0 ≤ x.toInt.tmod 16) ∧ (x.toInt ≤ 0 → x.toInt.tmod 16 ≤ 0) := by
    refine ⟨fun h => Int.tmod_nonneg _ h, fun h => ?_⟩
    have := Int.tmod_nonneg (a := -x.toInt) 16 (by omega)
    rw [Int.neg_tmod] at this
    omega
  have e6 : (x / 16 * 16).toInt = x.toInt.tdiv 16 * 16 := by
    rw [Int32.toInt_mul, e1, e3, fb_bmod (by omega) (by omega)]
  rw [Int32.toInt_sub, e6, fb_bmod (by omega) (by omega)]
  omega
theorem nn_bt (y : Int32) : (0 : Int32) ≤ y ↔ bt y 31 = false := by
  have h1 : y.toBitVec.msb = bt y 31 := BitVec.msb_eq_getLsbD_last _
  have h2 := BitVec.msb_eq_toInt (x := y.toBitVec)
  have h3 : y.toBitVec.toInt = y.toInt := rfl
  rw [Int32.le_iff_toInt_le, ← h1, h2, h3]
  have h4 : (0 : Int32).toInt = 0 := by decide
  rw [h4]
  simp
theorem rek_of {x r : Int32} (hr : r.toInt = x.toInt.tmod 16) : (0 ≤ r.toInt → r = kv (rek x)) ∧ (r.toInt < 0 → r + 16 = kv (rek x)) := by
  have e2 : x.toInt.tdiv 16 * 16 + x.toInt.tmod 16 = x.toInt := Int.tdiv_mul_add_tmod x.toInt 16
  have e4 : -16 < x.toInt.tmod 16 ∧ x.toInt.tmod 16 < 16 := ⟨Int.lt_tmod_of_pos _ (by omega), Int.tmod_lt_of_pos _ (by omega)⟩
  have hv : ((rek x).val : Int) = x.toInt % 16 := by
    unfold rek
    simp only [Fin.ofNat]
    omega
  have hk : (kv (rek x)).toInt = ((rek x).val : Int) := nI_toInt (by have := (rek x).isLt; omega)
  refine ⟨fun h => Int32.toInt_inj.mp ?_, fun h => Int32.toInt_inj.mp ?_⟩
  · rw [hk, hv, hr]
    omega
  · have e16 : (16 : Int32).toInt = 16 := by decide
    rw [hk, hv, Int32.toInt_add, e16, hr, fb_bmod (by omega) (by omega)]
    omega
theorem floorMod16 (x : Int32) (M : Mem) : f_ma_floorMod x (nI 16) M = some (kv (rek x), M) := by
  have h := rek_of (rem16 x)
  have e16 : nI 16 = (16 : Int32) := rfl
  have hb : (0 : Int32) ≤ (x ^^^ 16) ↔ (0 : Int32) ≤ x := by
    rw [nn_bt, nn_bt, b_xor, show bt 16 31 = false by decide]
    simp
  have hx : (0 : Int32) ≤ x ↔ 0 ≤ x.toInt := by rw [Int32.le_iff_toInt_le]; exact Iff.rfl
  have e4 : -16 < x.toInt.tmod 16 ∧ x.toInt.tmod 16 < 16 := ⟨Int.lt_tmod_of_pos _ (by omega), Int.tmod_lt_of_pos _ (by omega)⟩
  have hr := rem16 x
  unfold f_ma_floorMod
  rw [e16]
  refine (if_neg (by decide)).trans ?_
  by_cases hz : (0 : Int32) ≤ x
  · refine (if_pos (hb.mpr hz)).trans ?_
    have h0 : 0 ≤ x.toInt.tmod 16 := Int.tmod_nonneg _ (hx.mp hz)
    rw [← h.1 (by rw [hr]; exact h0)]
  · refine (if_neg (fun w => hz (hb.mp w))).trans ?_
    have hlt : x.toInt < 0 := Int.not_le.mp (fun w => hz (hx.mpr w))
    have hle : x.toInt.tmod 16 ≤ 0 := by
      have := Int.tmod_nonneg (a := -x.toInt) 16 (by omega)
      rw [Int.neg_tmod] at this
      omega
    by_cases h0 : x - x / 16 * 16 = 0
    · rw [if_pos h0]
      have := h.1 (by rw [h0]; decide)
      rw [← this]
    · rw [if_neg h0]
      have hne : (x - x / 16 * 16).toInt ≠ 0 := fun w => h0 (Int32.toInt_inj.mp (w.trans (by decide)))
      have hlt2 : (x - x / 16 * 16).toInt < 0 := by
        rw [hr] at hne ⊢
        exact Int.lt_iff_le_and_ne.mpr ⟨hle, hne⟩
      rw [← h.2 hlt2]
section
variable {T : Tl} {I : Iw} {a q w kind : Nat} {av bv : Int32} {f : Kst}
theorem copies_loop (k : Fin 16) (v : Int32) (b c : Nat) (hk : tK T a = 6) (hc : c ≤ 3) (sw : shRc T w 4) (d3 : a < w ∨ w + 4 ≤ a) : ∀ (d n i : Nat) (I : Iw) (l : List Rec), I a 7 = nI c → i + d = c → d < n → Rng I w 4 l → l.length = i → ∃ I', f_op_handle_128 n a (kv k) v (nI b) w (nI i) ((I, T) : Mem) = some ((I', T) : Mem) ∧ Frm w 4 I I' ∧ Rng I' w 4 (l ++ (List.range d).map fun j => (k, v + nI (i + j), b))
  | d, 0, i, I, l, _, _, hn, _, _ => by omega
  | 0, n + 1, i, I, l, e7, hd, hn, hw, hl => by
    refine ⟨I, ?_, Frm_rf, by simpa using hw⟩
    unfold f_op_handle_128
    simp (disch := omega) only [↓gI_t, ↓pI_t, ↓pZ_t, ↓ck_t, ↓aN_t, ↓cI_s, ↓cV_s, ↓cR_s, ↓onR_s, ↓onR_n, ↓nmI_t, ↓reduceIte, gA_t, aI_t, sI_t, aA_t, aB_t, sB_t, rmI_t, dvI_t, nI_add, pk_mul, pk_sub, nI_leI, nI_ltI, nI_eq, n_leT, n_leF, n_ltT, n_ltF, n_eqT, n_eqF, u2_ne, u2_at, u2_nj, r2_ne, r2_at, ↓i_neg1, m1_ne, m1_en, m1_lt, m1_le, m1_nlt, m1_nle, i_lits, true_and, and_true, hk, e7]
  | d + 1, n + 1, i, I, l, e7, hd, hn, hw, hl => by
    obtain ⟨I1, e1, g1, r1⟩ := rc_add m3_4 sw hw (by omega) (k, v + nI i, b)
    have eA : I1 a = I a := g1 a (by omega)
    obtain ⟨I2, e2, g2, r2⟩ := copies_loop k v b c hk hc sw d3 d n (i + 1) I1 (l ++ [(k, v + nI i, b)]) (by rw [eA]; exact e7) (by omega) (by omega) r1 (by simp; omega)
    have hsw := sw.1
    refine ⟨I2, ?_, Frm_tr g1 g2, ?_⟩
    · unfold f_op_handle_128
      simp only at e1
      simp (disch := omega) only [↓gI_t, ↓pI_t, ↓pZ_t, ↓ck_t, ↓aN_t, ↓cI_s, ↓cV_s, ↓cR_s, ↓onR_s, ↓onR_n, ↓nmI_t, ↓reduceIte, gA_t, aI_t, sI_t, aA_t, aB_t, sB_t, rmI_t, dvI_t, nI_add, pk_mul, pk_sub, nI_leI, nI_ltI, nI_eq, n_leT, n_leF, n_ltT, n_ltF, n_eqT, n_eqF, u2_ne, u2_at, u2_nj, r2_ne, r2_at, ↓i_neg1, m1_ne, m1_en, m1_lt, m1_le, m1_nlt, m1_nle, i_lits, true_and, and_true, hk, e7, hsw, e1, e2]
    · have : l ++ (List.range (d + 1)).map (fun j => (k, v + nI (i + j), b)) = l ++ [(k, v + nI i, b)] ++ (List.range d).map (fun j => (k, v + nI (i + 1 + j), b)) := by
        rw [List.range_succ_eq_map, List.map_cons, List.map_map, List.append_assoc]
        simp only [Nat.add_zero, List.singleton_append]
        congr 2
        refine List.map_congr_left (fun j _ => ?_)
        simp only [Function.comp]
        rw [show i + (j + 1) = i + 1 + j by omega]
      rw [this]
      exact r2
theorem Kst_id {k : Fin 16} : (fun k' => if k' = k then f k else f k') = f := funext fun k' => by
  split
  · rename_i h; rw [h]
  · rfl
theorem op_handle (hk : tK T a = 6) (e6 : I a 6 = nI kind) (e7 : I a 7 = av) (e8 : I a 8 = bv) (hkd : kind ≤ 8) (h3 : kind = 3 → ∃ c, c ≤ 3 ∧ av = nI c) (sq : shKy T q) (hq : KyC I q f) (sw : shRc T w 4) (hw : Rng I w 4 []) (d1 : q + 3 ≤ w ∨ w + 4 ≤ q) (d2 : a < q ∨ q + 3 ≤ a) (d3 : a < w ∨ w + 4 ≤ a) (k : Fin 16) (v : Int32) (b : Nat) : ∃ I', f_op_handle a q (kv k) v (nI b) w ((I, T) : Mem) = some ((I', T) : Mem) ∧ Rng I' w 4 ((proc kind av bv (f k) k v).1.map fun x => (x.1, x.2, b)) ∧ KyC I' q (fun k' => if k' = k then (proc kind av bv (f k) k v).2 else f k') ∧ ∀ x, (x < q ∨ q + 3 ≤ x) → (x < w ∨ w + 4 ≤ x) → I' x = I x := by
  have hsw := sw.1
  have hsq := sq.1
  obtain ⟨ka1, ka2, ka3⟩ := ky_at (T := T) sq hq k
  -- a record is emitted and the states stay
  have emit : ∀ (k2 : Fin 16) (v2 : Int32), ∃ I', f_rc_add w (kv k2) v2 (nI b) ((I, T) : Mem) = some ((I', T) : Mem) ∧ Rng I' w 4 [(k2, v2, b)] ∧ KyC I' q f ∧ ∀ x, (x < w ∨ w + 4 ≤ x) → I' x = I x := fun k2 v2 => by
    obtain ⟨I1, e1, g1, r1⟩ := rc_add m3_4 sw hw (by simp) (k2, v2, b)
    exact ⟨I1, e1, r1, KyC_cg hq (fun x h1 h2 => g1 x (by omega)), fun x h2 => g1 x h2⟩
  have stay0 : Rng I w 4 [] ∧ KyC I q f := ⟨hw, hq⟩
  unfold f_op_handle
  rcases (by omega : kind = 0 ∨ kind = 1 ∨ kind = 2 ∨ kind = 3 ∨ kind = 4 ∨ kind = 5 ∨ kind = 6 ∨ kind = 7 ∨ kind = 8) with rfl | rfl | rfl | rfl | rfl | rfl | rfl | rfl | rfl
  · obtain ⟨I1, e1, r1, c1, g1⟩ := emit k (v * av + bv)
    refine ⟨I1, ?_, r1, ?_, fun x _ h2 => g1 x h2⟩
    · simp (disch := omega) only [↓gI_t, ↓pI_t, ↓pZ_t, ↓ck_t, ↓aN_t, ↓cI_s, ↓cV_s, ↓cR_s, ↓onR_s, ↓onR_n, ↓nmI_t, ↓reduceIte, gA_t, aI_t, sI_t, aA_t, aB_t, sB_t, rmI_t, dvI_t, nI_add, pk_mul, pk_sub, nI_leI, nI_ltI, nI_eq, n_leT, n_leF, n_ltT, n_ltF, n_eqT, n_eqF, u2_ne, u2_at, u2_nj, r2_ne, r2_at, ↓i_neg1, m1_ne, m1_en, m1_lt, m1_le, m1_nlt, m1_nle, i_lits, true_and, and_true, hk, e6, e7, e8, hsw, e1]
    · simp only [proc, Kst_id]
      exact c1
  · -- filter
    have hp : f_op_passes a v ((I, T) : Mem) = some (nI (b01 (decide (if av = 0 then v < bv else if av = 1 then v = bv else bv < v))), ((I, T) : Mem)) := by
      unfold f_op_passes
      simp (disch := omega) only [gI_t, hk, e7, e8]
      by_cases h0 : av = 0
      · simp only [h0, if_true]
        by_cases h1 : bv ≤ v
        · rw [if_pos h1]
          have : ¬ v < bv := Int32.not_lt.mpr h1
          simp [this, b01]; rfl
        · rw [if_neg h1]
          have : v < bv := Int32.not_le.mp h1
          simp [this, b01]; rfl
      · simp only [h0, if_false]
        by_cases h1 : av = 1
        · simp only [h1, if_true]
          by_cases h2 : v = bv
          · simp [h2, b01]; rfl
          · simp [h2, b01]; rfl
        · simp only [h1, if_false]
          by_cases h2 : v ≤ bv
          · rw [if_pos h2]
            have : ¬ bv < v := Int32.not_lt.mpr h2
            simp [this, b01]; rfl
          · rw [if_neg h2]
            have : bv < v := Int32.not_le.mp h2
            simp [this, b01]; rfl
    simp only [proc]
    by_cases hc : (if av = 0 then v < bv else if av = 1 then v = bv else bv < v)
    · obtain ⟨I1, e1, r1, c1, g1⟩ := emit k v
      rw [decide_eq_true hc] at hp
      refine ⟨I1, ?_, ?_, ?_, fun x _ h2 => g1 x h2⟩
      · simp (disch := omega) only [↓gI_t, ↓pI_t, ↓pZ_t, ↓ck_t, ↓aN_t, ↓cI_s, ↓cV_s, ↓cR_s, ↓onR_s, ↓onR_n, ↓nmI_t, ↓reduceIte, gA_t, aI_t, sI_t, aA_t, aB_t, sB_t, rmI_t, dvI_t, nI_add, pk_mul, pk_sub, nI_leI, nI_ltI, nI_eq, n_leT, n_leF, n_ltT, n_ltF, n_eqT, n_eqF, u2_ne, u2_at, u2_nj, r2_ne, r2_at, ↓i_neg1, m1_ne, m1_en, m1_lt, m1_le, m1_nlt, m1_nle, i_lits, true_and, and_true, hk, e6, hp, b01, hsw, e1]
      · rw [if_pos hc]; exact r1
      · simp only [Kst_id]; exact c1
    · rw [decide_eq_false hc] at hp
      refine ⟨I, ?_, ?_, ?_, fun x _ _ => rfl⟩
      · simp (disch := omega) only [↓gI_t, ↓pI_t, ↓pZ_t, ↓ck_t, ↓aN_t, ↓cI_s, ↓cV_s, ↓cR_s, ↓onR_s, ↓onR_n, ↓nmI_t, ↓reduceIte, gA_t, aI_t, sI_t, aA_t, aB_t, sB_t, rmI_t, dvI_t, nI_add, pk_mul, pk_sub, nI_leI, nI_ltI, nI_eq, n_leT, n_leF, n_ltT, n_ltF, n_eqT, n_eqF, u2_ne, u2_at, u2_nj, r2_ne, r2_at, ↓i_neg1, m1_ne, m1_en, m1_lt, m1_le, m1_nlt, m1_nle, i_lits, true_and, and_true, hk, e6, hp, b01, Bool.false_eq_true]
      · rw [if_neg hc]; exact hw
      · simp only [Kst_id]; exact hq
  · obtain ⟨I1, e1, r1, c1, g1⟩ := emit (rek (kv k * av + bv)) v
    refine ⟨I1, ?_, r1, ?_, fun x _ h2 => g1 x h2⟩
    · simp (disch := omega) only [↓gI_t, ↓pI_t, ↓pZ_t, ↓ck_t, ↓aN_t, ↓cI_s, ↓cV_s, ↓cR_s, ↓onR_s, ↓onR_n, ↓nmI_t, ↓reduceIte, gA_t, aI_t, sI_t, aA_t, aB_t, sB_t, rmI_t, dvI_t, nI_add, pk_mul, pk_sub, nI_leI, nI_ltI, nI_eq, n_leT, n_leF, n_ltT, n_ltF, n_eqT, n_eqF, u2_ne, u2_at, u2_nj, r2_ne, r2_at, ↓i_neg1, m1_ne, m1_en, m1_lt, m1_le, m1_nlt, m1_nle, i_lits, true_and, and_true, hk, e6, e7, e8, hsw, floorMod16, e1]
    · simp only [proc, Kst_id]
      exact c1
  · obtain ⟨c, hc, hav⟩ := h3 rfl
    obtain ⟨I1, e1, g1, r1⟩ := copies_loop (T := T) k v b c hk hc sw d3 c FU 0 I [] (by rw [e7, hav]) (by omega) (by unfold FU; omega) hw rfl
    refine ⟨I1, ?_, ?_, ?_, fun x _ h2 => g1 x h2⟩
    · simp (disch := omega) only [↓gI_t, ↓pI_t, ↓pZ_t, ↓ck_t, ↓aN_t, ↓cI_s, ↓cV_s, ↓cR_s, ↓onR_s, ↓onR_n, ↓nmI_t, ↓reduceIte, gA_t, aI_t, sI_t, aA_t, aB_t, sB_t, rmI_t, dvI_t, nI_add, pk_mul, pk_sub, nI_leI, nI_ltI, nI_eq, n_leT, n_leF, n_ltT, n_ltF, n_eqT, n_eqF, u2_ne, u2_at, u2_nj, r2_ne, r2_at, ↓i_neg1, m1_ne, m1_en, m1_lt, m1_le, m1_nlt, m1_nle, i_lits, true_and, and_true, hk, e6, e1]
    · simp only [proc, List.map_map]
      rw [hav, nI_clamp (by omega)]
      simp only [List.nil_append, Nat.zero_add] at r1
      exact r1
    · simp only [proc, Kst_id]
      exact KyC_cg hq (fun x h1 h2 => g1 x (by omega))
  · -- sums
    have hadd : f_op_addToSum a q (kv k) v (nI b) w ((I, T) : Mem) = (if snd0 (f k) + nI 1 = av then cV (f_rc_add w (kv k) (fst0 (f k) + v) (nI b) ((I, T) : Mem)) fun M7 => ck M7 q 4 <| cV (f_ky_remove q (kv k) M7) fun M8 => some M8 else cV (f_ky_put q (kv k) (fst0 (f k) + v) (snd0 (f k) + nI 1) ((I, T) : Mem)) fun M6 => some M6) := by
      unfold f_op_addToSum
      simp (disch := omega) only [gI_t, ck_t, cI_s, hk, hsq, hsw, ka2, ka3, e7, i_lits]
    by_cases hc : snd0 (f k) + nI 1 = av
    · obtain ⟨I1, e1, r1, c1, g1⟩ := emit k (fst0 (f k) + v)
      obtain ⟨I2, e2, g2, c2⟩ := ky_remove (T := T) sq c1 k
      have hp : proc 4 av bv (f k) k v = ([(k, fst0 (f k) + v)], none) := by
        show (if snd0 (f k) + nI 1 = av then _ else _) = _
        rw [if_pos hc]; rfl
      refine ⟨I2, ?_, ?_, ?_, fun x h1 h2 => (g2 x (by omega)).trans (g1 x h2)⟩
      · simp (disch := omega) only [↓gI_t, ↓pI_t, ↓pZ_t, ↓ck_t, ↓aN_t, ↓cI_s, ↓cV_s, ↓cR_s, ↓onR_s, ↓onR_n, ↓nmI_t, ↓reduceIte, gA_t, aI_t, sI_t, aA_t, aB_t, sB_t, rmI_t, dvI_t, nI_add, pk_mul, pk_sub, nI_leI, nI_ltI, nI_eq, n_leT, n_leF, n_ltT, n_ltF, n_eqT, n_eqF, u2_ne, u2_at, u2_nj, r2_ne, r2_at, ↓i_neg1, m1_ne, m1_en, m1_lt, m1_le, m1_nlt, m1_nle, i_lits, true_and, and_true, hk, e6, hadd, hc, e1, hsq, e2]
      · rw [hp]
        exact Rng_cg r1 (fun x h1 h2 => g2 x (by omega))
      · rw [hp]
        exact c2
    · obtain ⟨I2, e2, g2, c2⟩ := ky_put (T := T) sq hq k (fst0 (f k) + v) (snd0 (f k) + nI 1)
      have hp : proc 4 av bv (f k) k v = ([], some (fst0 (f k) + v, snd0 (f k) + nI 1)) := by
        show (if snd0 (f k) + nI 1 = av then _ else _) = _
        rw [if_neg hc]; rfl
      refine ⟨I2, ?_, ?_, ?_, fun x h1 h2 => g2 x (by omega)⟩
      · rw [if_neg hc] at hadd
        simp (disch := omega) only [↓gI_t, ↓pI_t, ↓pZ_t, ↓ck_t, ↓aN_t, ↓cI_s, ↓cV_s, ↓cR_s, ↓onR_s, ↓onR_n, ↓nmI_t, ↓reduceIte, gA_t, aI_t, sI_t, aA_t, aB_t, sB_t, rmI_t, dvI_t, nI_add, pk_mul, pk_sub, nI_leI, nI_ltI, nI_eq, n_leT, n_leF, n_ltT, n_ltF, n_eqT, n_eqF, u2_ne, u2_at, u2_nj, r2_ne, r2_at, ↓i_neg1, m1_ne, m1_en, m1_lt, m1_le, m1_nlt, m1_nle, i_lits, true_and, and_true, hk, e6, hadd, e2]
      · rw [hp]
        exact Rng_cg hw (fun x h1 h2 => g2 x (by omega))
      · rw [hp]
        exact c2
  · -- changes
    have hput : ∀ I1 : Iw, KyC I1 q f → ∃ I', f_op_handle_198 q (kv k) v ((I1, T) : Mem) = some ((I', T) : Mem) ∧ Frm q 3 I1 I' ∧ KyC I' q (fun k' => if k' = k then some (v, 0) else f k') := fun I1 h1 => by
      obtain ⟨I2, e2, g2, c2⟩ := ky_put (T := T) sq h1 k v (nI 0)
      refine ⟨I2, ?_, g2, c2⟩
      unfold f_op_handle_198
      simp (disch := omega) only [↓gI_t, ↓pI_t, ↓pZ_t, ↓ck_t, ↓aN_t, ↓cI_s, ↓cV_s, ↓cR_s, ↓onR_s, ↓onR_n, ↓nmI_t, ↓reduceIte, gA_t, aI_t, sI_t, aA_t, aB_t, sB_t, rmI_t, dvI_t, nI_add, pk_mul, pk_sub, nI_leI, nI_ltI, nI_eq, n_leT, n_leF, n_ltT, n_ltF, n_eqT, n_eqF, u2_ne, u2_at, u2_nj, r2_ne, r2_at, ↓i_neg1, m1_ne, m1_en, m1_lt, m1_le, m1_nlt, m1_nle, i_lits, true_and, and_true, hsq, e2]
    by_cases hc : (f k).map (fun x => x.1) = some v
    · obtain ⟨I2, e2, g2, c2⟩ := hput I hq
      have hp : proc 5 av bv (f k) k v = ([], some (v, 0)) := by
        show (if (f k).map (fun x => x.1) = some v then _ else _, _) = _
        rw [if_pos hc]
      obtain ⟨y, hy⟩ : ∃ y, f k = some y := by
        cases hz : f k with
        | none => rw [hz] at hc; cases hc
        | some y => exact ⟨y, rfl⟩
      have hv : fst0 (f k) = v := by unfold fst0; rw [hc]; rfl
      have hs : (f k).isSome = true := by rw [hy]; rfl
      refine ⟨I2, ?_, ?_, ?_, fun x h1 h2 => g2 x (by omega)⟩
      · simp (disch := omega) only [↓gI_t, ↓pI_t, ↓pZ_t, ↓ck_t, ↓aN_t, ↓cI_s, ↓cV_s, ↓cR_s, ↓onR_s, ↓onR_n, ↓nmI_t, ↓reduceIte, gA_t, aI_t, sI_t, aA_t, aB_t, sB_t, rmI_t, dvI_t, nI_add, pk_mul, pk_sub, nI_leI, nI_ltI, nI_eq, n_leT, n_leF, n_ltT, n_ltF, n_eqT, n_eqF, u2_ne, u2_at, u2_nj, r2_ne, r2_at, ↓i_neg1, m1_ne, m1_en, m1_lt, m1_le, m1_nlt, m1_nle, i_lits, true_and, and_true, hk, e6, hsq, ka1, hs, b01, ka2, hv, e2]
      · rw [hp]
        exact Rng_cg hw (fun x h1 h2 => g2 x (by omega))
      · rw [hp]; exact c2
    · obtain ⟨I1, e1, r1, c1, g1⟩ := emit k v
      obtain ⟨I2, e2, g2, c2⟩ := hput I1 c1
      have hp : proc 5 av bv (f k) k v = ([(k, v)], some (v, 0)) := by
        show (if (f k).map (fun x => x.1) = some v then _ else _, _) = _
        rw [if_neg hc]
      have e189 : f_op_handle_189 q (kv k) v (nI b) w ((I, T) : Mem) = some ((I2, T) : Mem) := by
        unfold f_op_handle_189
        simp (disch := omega) only [↓gI_t, ↓pI_t, ↓pZ_t, ↓ck_t, ↓aN_t, ↓cI_s, ↓cV_s, ↓cR_s, ↓onR_s, ↓onR_n, ↓nmI_t, ↓reduceIte, gA_t, aI_t, sI_t, aA_t, aB_t, sB_t, rmI_t, dvI_t, nI_add, pk_mul, pk_sub, nI_leI, nI_ltI, nI_eq, n_leT, n_leF, n_ltT, n_ltF, n_eqT, n_eqF, u2_ne, u2_at, u2_nj, r2_ne, r2_at, ↓i_neg1, m1_ne, m1_en, m1_lt, m1_le, m1_nlt, m1_nle, i_lits, true_and, and_true, hsw, e1, e2]
      refine ⟨I2, ?_, ?_, ?_, fun x h1 h2 => (g2 x (by omega)).trans (g1 x h2)⟩
      · cases hz : f k with
        | none =>
          rw [hz] at ka1
          simp (disch := omega) only [↓gI_t, ↓pI_t, ↓pZ_t, ↓ck_t, ↓aN_t, ↓cI_s, ↓cV_s, ↓cR_s, ↓onR_s, ↓onR_n, ↓nmI_t, ↓reduceIte, gA_t, aI_t, sI_t, aA_t, aB_t, sB_t, rmI_t, dvI_t, nI_add, pk_mul, pk_sub, nI_leI, nI_ltI, nI_eq, n_leT, n_leF, n_ltT, n_ltF, n_eqT, n_eqF, u2_ne, u2_at, u2_nj, r2_ne, r2_at, ↓i_neg1, m1_ne, m1_en, m1_lt, m1_le, m1_nlt, m1_nle, i_lits, true_and, and_true, hk, e6, hsq, ka1, Option.isSome_none, b01, Bool.false_eq_true, e189]
        | some y =>
          have hv : ¬ fst0 (some y) = v := fun z => hc (by rw [hz]; simp only [Option.map_some]; exact congrArg some z)
          rw [hz] at ka1 ka2
          simp (disch := omega) only [↓gI_t, ↓pI_t, ↓pZ_t, ↓ck_t, ↓aN_t, ↓cI_s, ↓cV_s, ↓cR_s, ↓onR_s, ↓onR_n, ↓nmI_t, ↓reduceIte, gA_t, aI_t, sI_t, aA_t, aB_t, sB_t, rmI_t, dvI_t, nI_add, pk_mul, pk_sub, nI_leI, nI_ltI, nI_eq, n_leT, n_leF, n_ltT, n_ltF, n_eqT, n_eqF, u2_ne, u2_at, u2_nj, r2_ne, r2_at, ↓i_neg1, m1_ne, m1_en, m1_lt, m1_le, m1_nlt, m1_nle, i_lits, true_and, and_true, hk, e6, hsq, ka1, Option.isSome_some, b01, ka2, hv, e189]
      · rw [hp]
        exact Rng_cg r1 (fun x h1 h2 => g2 x (by omega))
      · rw [hp]; exact c2
  · -- records
    have e225 : ∃ I', f_op_handle_225 q (kv k) v (nI b) w ((I, T) : Mem) = some ((I', T) : Mem) ∧ Rng I' w 4 [(k, v, b)] ∧ KyC I' q (fun k' => if k' = k then some (v, 0) else f k') ∧ ∀ x, (x < q ∨ q + 3 ≤ x) → (x < w ∨ w + 4 ≤ x) → I' x = I x := by
      obtain ⟨I1, e1, r1, c1, g1⟩ := emit k v
      obtain ⟨I2, e2, g2, c2⟩ := ky_put (T := T) sq c1 k v (nI 0)
      refine ⟨I2, ?_, Rng_cg r1 (fun x h1 h2 => g2 x (by omega)), c2, fun x h1 h2 => (g2 x (by omega)).trans (g1 x h2)⟩
      unfold f_op_handle_225
      simp (disch := omega) only [↓gI_t, ↓pI_t, ↓pZ_t, ↓ck_t, ↓aN_t, ↓cI_s, ↓cV_s, ↓cR_s, ↓onR_s, ↓onR_n, ↓nmI_t, ↓reduceIte, gA_t, aI_t, sI_t, aA_t, aB_t, sB_t, rmI_t, dvI_t, nI_add, pk_mul, pk_sub, nI_leI, nI_ltI, nI_eq, n_leT, n_leF, n_ltT, n_ltF, n_eqT, n_eqF, u2_ne, u2_at, u2_nj, r2_ne, r2_at, ↓i_neg1, m1_ne, m1_en, m1_lt, m1_le, m1_nlt, m1_nle, i_lits, true_and, and_true, hsw, e1, hsq, e2]
    obtain ⟨I2, e2, r2, c2, g2⟩ := e225
    cases hz : f k with
    | none =>
      rw [hz] at ka1
      refine ⟨I2, ?_, r2, c2, g2⟩
      simp (disch := omega) only [↓gI_t, ↓pI_t, ↓pZ_t, ↓ck_t, ↓aN_t, ↓cI_s, ↓cV_s, ↓cR_s, ↓onR_s, ↓onR_n, ↓nmI_t, ↓reduceIte, gA_t, aI_t, sI_t, aA_t, aB_t, sB_t, rmI_t, dvI_t, nI_add, pk_mul, pk_sub, nI_leI, nI_ltI, nI_eq, n_leT, n_leF, n_ltT, n_ltF, n_eqT, n_eqF, u2_ne, u2_at, u2_nj, r2_ne, r2_at, ↓i_neg1, m1_ne, m1_en, m1_lt, m1_le, m1_nlt, m1_nle, i_lits, true_and, and_true, hk, e6, hsq, ka1, Option.isSome_none, b01, Bool.false_eq_true, e2]
    | some y =>
      rw [hz] at ka1 ka2
      have hfy : fst0 (some y) = y.1 := rfl
      rw [hfy] at ka2
      by_cases hc : y.1 < v
      · have hp : proc 6 av bv (some y) k v = ([(k, v)], some (v, 0)) := if_pos hc
        have hn : ¬ v ≤ y.1 := Int32.not_le.mpr hc
        rw [hp]
        refine ⟨I2, ?_, r2, c2, g2⟩
        simp (disch := omega) only [↓gI_t, ↓pI_t, ↓pZ_t, ↓ck_t, ↓aN_t, ↓cI_s, ↓cV_s, ↓cR_s, ↓onR_s, ↓onR_n, ↓nmI_t, ↓reduceIte, gA_t, aI_t, sI_t, aA_t, aB_t, sB_t, rmI_t, dvI_t, nI_add, pk_mul, pk_sub, nI_leI, nI_ltI, nI_eq, n_leT, n_leF, n_ltT, n_ltF, n_eqT, n_eqF, u2_ne, u2_at, u2_nj, r2_ne, r2_at, ↓i_neg1, m1_ne, m1_en, m1_lt, m1_le, m1_nlt, m1_nle, i_lits, true_and, and_true, hk, e6, hsq, ka1, Option.isSome_some, b01, ka2, hn, e2]
      · have hp : proc 6 av bv (some y) k v = ([], some y) := if_neg hc
        have hn : v ≤ y.1 := Int32.not_lt.mp hc
        rw [hp]
        refine ⟨I, ?_, hw, ?_, fun x _ _ => rfl⟩
        · simp (disch := omega) only [↓gI_t, ↓pI_t, ↓pZ_t, ↓ck_t, ↓aN_t, ↓cI_s, ↓cV_s, ↓cR_s, ↓onR_s, ↓onR_n, ↓nmI_t, ↓reduceIte, gA_t, aI_t, sI_t, aA_t, aB_t, sB_t, rmI_t, dvI_t, nI_add, pk_mul, pk_sub, nI_leI, nI_ltI, nI_eq, n_leT, n_leF, n_ltT, n_ltF, n_eqT, n_eqF, u2_ne, u2_at, u2_nj, r2_ne, r2_at, ↓i_neg1, m1_ne, m1_en, m1_lt, m1_le, m1_nlt, m1_nle, i_lits, true_and, and_true, hk, e6, hsq, ka1, Option.isSome_some, b01, ka2, hn]
        · simp only
          rw [← hz, Kst_id]
          exact hq
  · refine ⟨I, ?_, hw, ?_, fun x _ _ => rfl⟩
    · simp (disch := omega) only [↓gI_t, ↓pI_t, ↓pZ_t, ↓ck_t, ↓aN_t, ↓cI_s, ↓cV_s, ↓cR_s, ↓onR_s, ↓onR_n, ↓nmI_t, ↓reduceIte, gA_t, aI_t, sI_t, aA_t, aB_t, sB_t, rmI_t, dvI_t, nI_add, pk_mul, pk_sub, nI_leI, nI_ltI, nI_eq, n_leT, n_leF, n_ltT, n_ltF, n_eqT, n_eqF, u2_ne, u2_at, u2_nj, r2_ne, r2_at, ↓i_neg1, m1_ne, m1_en, m1_lt, m1_le, m1_nlt, m1_nle, i_lits, true_and, and_true, hk, e6]
    · simp only [proc, Kst_id]
      exact hq
  · obtain ⟨I2, e2, g2, c2⟩ := ky_put (T := T) sq hq k (fst0 (f k) + v) (snd0 (f k) + nI 1)
    refine ⟨I2, ?_, ?_, c2, fun x h1 h2 => g2 x (by omega)⟩
    · simp (disch := omega) only [↓gI_t, ↓pI_t, ↓pZ_t, ↓ck_t, ↓aN_t, ↓cI_s, ↓cV_s, ↓cR_s, ↓onR_s, ↓onR_n, ↓nmI_t, ↓reduceIte, gA_t, aI_t, sI_t, aA_t, aB_t, sB_t, rmI_t, dvI_t, nI_add, pk_mul, pk_sub, nI_leI, nI_ltI, nI_eq, n_leT, n_leF, n_ltT, n_ltF, n_eqT, n_eqF, u2_ne, u2_at, u2_nj, r2_ne, r2_at, ↓i_neg1, m1_ne, m1_en, m1_lt, m1_le, m1_nlt, m1_nle, i_lits, true_and, and_true, hk, e6, hsq, ka2, ka3, e2]
    · exact Rng_cg hw (fun x h1 h2 => g2 x (by omega))
end
