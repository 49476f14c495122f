/-! CALLS: the class begins anew -/
def qsR (Q : Slow) (v : Nat → Nat) : Slow := (Q.1, Q.2.1, v, Q.2.2.2)
def qsV (Q : Slow) (v : Nat → Kst) : Slow := (Q.1, Q.2.1, Q.2.2.1, v, Q.2.2.2.2)
def bgD (D : Dy) (mo ms : Nat) : Dy := zsI (zsB (zsY (zsX (zsN D (fun s => if s < ms then 0 else dN D s)) (fun o => if o < mo then 0 else dX D o)) (fun o => if o < mo then 0 else dY D o)) (fun o => if o < mo then 0 else dB D o)) (fun o => if o < mo then 0 else dI D o)
def bgQ (Q : Slow) (mo ms : Nat) : Slow := qsV (qsR Q (fun s => if s < ms then 0 else qR Q s)) (fun o => if o < mo then fun _ => none else qV Q o)
section
variable {T T' : Tl} {I I' : Iw} {E E' : Env} {D D' : Dy} {Q Q' : Slow} {S : Sy} {g g' : Nat → Kst} {o i j s c r tk k : Nat}
theorem CT_R {m : Nat} (hE : okE E) (h : CT E D g Q I T) (ho : o < 6) (hi : i < 3) : CT E D g (qsR Q (upw (qR Q) (spt o i) m)) (u2 I (20 + 33 * o + 18 + 5 * i) 6 (nI m)) T ∧ FX T I (u2 I (20 + 33 * o + 18 + 5 * i) 6 (nI m)) := by
  obtain ⟨h1, h2, h3, h4, h5, h6, h7, h8, h9, h10, h11⟩ := h
  have n4 := hE.1
  have f : ∀ a, a ≠ 20 + 33 * o + 18 + 5 * i → u2 I (20 + 33 * o + 18 + 5 * i) 6 (nI m) a = I a := fun a ha => u2_ne ha
  have fj : ∀ a j, j ≠ 6 → u2 I (20 + 33 * o + 18 + 5 * i) 6 (nI m) a j = I a j := fun a j hj => by
    by_cases hz : a = 20 + 33 * o + 18 + 5 * i
    · exact u2_nj hz hj
    · rw [f a hz]
  have b1 : 20 + 33 * o + 18 ≤ 20 + 33 * o + 18 + 5 * i := by omega
  have b2 : 20 + 33 * o + 18 + 5 * i ≤ 20 + 33 * o + 28 := by omega
  have bo : ∀ o', 20 + 33 * o' ≠ 20 + 33 * o + 18 + 5 * i := fun o' => by
    have := adr_op (o := o) hi o'
    omega
  have hins : InsC (u2 I (20 + 33 * o + 18 + 5 * i) 6 (nI m)) D := fun o' i' ho' hi' => InC_cg (h3 o' i' ho' hi') same5 (fun j hj => fj _ j (by omega)) (fun a g1 g2 => f a (by
    by_cases hz : o' = o ∧ i' = i
    · rw [hz.1, hz.2] at g1; omega
    · have ha := adr_ne hi hi' hz
      omega))
  obtain ⟨v1, v2, v3, v4, v5, v6, v7⟩ := h11
  have hv2 : ∀ o' i', o' < 6 → i' < 3 → u2 I (20 + 33 * o + 18 + 5 * i) 6 (nI m) (20 + 33 * o' + 18 + 5 * i') 6 = nI (upw (qR Q) (spt o i) m (spt o' i')) := fun o' i' ho' hi' => by
    by_cases hz : o' = o ∧ i' = i
    · rw [hz.1, hz.2, upw_eq]; exact u2_at rfl rfl
    · have hne : spt o' i' ≠ spt o i := spt_ne hi' hi hz
      have ha := adr_ne hi hi' hz
      rw [upw_ne hne, f _ (by omega)]
      exact v2 o' i' ho' hi'
  generalize 20 + 33 * o + 18 + 5 * i = q at f fj b1 b2 bo hins hv2
  refine ⟨⟨CfC_cg h1 n4 (fj 10 5 (by omega)) (f 11 (by omega)) (fun o ho j _ _ => by rw [f _ (bo _)]), ChsC_cg h2 (fun a _ _ => f a (by omega)), hins, KsC_cg h4 (fun a _ _ _ _ => f a (by omega)), PeC_cg h5 (fun a _ _ _ _ => f a (by omega)), PgC_cg hE h6 (fun o' i' ho' hi' => fj _ 5 (by omega)), StC_cg h7 (fun o _ j _ _ => by rw [f _ (bo _)]), ScC_cg h8 (f 10 (by omega)), NpC_cg h9 (fun a _ _ => f a (by omega)), LaC_cg h10 (f 18 (by omega)) (fun a _ => f a (by omega)), ⟨fun o ho => KyC_cg (v1 o ho) (fun a _ _ => f a (by omega)), hv2, ?_⟩⟩, fun a _ _ _ => f a (by omega)⟩
  rw [f 10 (by omega)]
  exact ⟨v3, v4, v5, v6, v7⟩
theorem CT_V {f' : Kst} (hE : okE E) (h : CT E D g Q I T) (ho : o < 6) (f : Frm (20 + 33 * o + 8) 3 I I') (hn : KyC I' (20 + 33 * o + 8) f') : CT E D g (qsV Q (upw (qV Q) o f')) I' T ∧ FX T I I' := by
  obtain ⟨h1, h2, h3, h4, h5, h6, h7, h8, h9, h10, h11⟩ := h
  have n4 := hE.1
  obtain ⟨v1, v2, v3, v4, v5, v6, v7⟩ := h11
  refine ⟨⟨CfC_cg h1 n4 (by rw [f 10 (by omega)]) (f 11 (by omega)) (fun o ho j _ _ => by rw [f _ (by omega)]), ChsC_cg h2 (fun a _ _ => f a (by omega)), InsC_cg h3 (fun a _ _ _ => f a (by omega)), KsC_cg h4 (fun a _ _ _ _ => f a (by omega)), PeC_cg h5 (fun a _ _ _ _ => f a (by omega)), PgC_cg hE h6 (fun o' i' _ hi' => by have := adr_op (o := o') hi' o; rw [f _ (by omega)]), StC_cg h7 (fun o _ j _ _ => by rw [f _ (by omega)]), ScC_cg h8 (f 10 (by omega)), NpC_cg h9 (fun a _ _ => f a (by omega)), LaC_cg h10 (f 18 (by omega)) (fun a _ => f a (by omega)), ⟨fun o' ho' => ?_, fun o' i' ho' hi' => ?_, ?_⟩⟩, fun a _ _ _ => f a (by omega)⟩
  · show KyC I' (20 + 33 * o' + 8) (upw (qV Q) o f' o')
    by_cases hz : o' = o
    · subst hz
      rw [upw_eq]
      exact hn
    · rw [upw_ne hz]
      exact KyC_cg (v1 o' ho') (fun a _ _ => f a (by omega))
  · have := adr_op (o := o') hi' o
    rw [f _ (by omega)]
    exact v2 o' i' ho' hi'
  · rw [f 10 (by omega)]
    exact ⟨v3, v4, v5, v6, v7⟩
theorem CT_10 {q t : Nat} (hE : okE E) (h : CT E D g Q I T) (f : ∀ a, a ≠ 10 → I' a = I a) (f5 : I' 10 5 = I 10 5) (hs : ScC I' (esT (esQ E q) t) D) (hv : I' 10 7 = nI (qP Q') ∧ I' 10 8 = nI (qO Q') ∧ I' 10 10 = qF Q' ∧ I' 10 11 = nI (qC Q') ∧ I' 10 14 = nI (b01 (qB Q'))) (hr : qR Q' = qR Q) (hV : qV Q' = qV Q) : CT (esT (esQ E q) t) D g Q' I' T ∧ FX T I I' := by
  obtain ⟨h1, h2, h3, h4, h5, h6, h7, h8, h9, h10, h11⟩ := h
  have n4 := hE.1
  obtain ⟨v1, v2, -⟩ := h11
  refine ⟨⟨CfC_cg (E := esT (esQ E q) t) h1 n4 f5 (f 11 (by omega)) (fun o ho j _ _ => by rw [f _ (by omega)]), ChsC_cg h2 (fun a _ _ => f a (by omega)), InsC_cg h3 (fun a _ _ _ => f a (by omega)), KsC_cg h4 (fun a _ _ _ _ => f a (by omega)), PeC_cg h5 (fun a _ _ _ _ => f a (by omega)), PgC_cg (E := esT (esQ E q) t) hE h6 (fun o' i' _ hi' => by rw [f _ (by omega)]), StC_cg h7 (fun o _ j _ _ => by rw [f _ (by omega)]), hs, NpC_cg (E := esT (esQ E q) t) h9 (fun a _ _ => f a (by omega)), LaC_cg h10 (f 18 (by omega)) (fun a _ => f a (by omega)), ⟨fun o' ho' => ?_, fun o' i' ho' hi' => ?_, hv⟩⟩, fun a _ _ _ => f a (by omega)⟩
  · rw [hV]
    exact KyC_cg (v1 o' ho') (fun a _ _ => f a (by omega))
  · rw [hr, f _ (by omega)]
    exact v2 o' i' ho' hi'
theorem is_reset (sh : shSm T) (hE : okE E) (ho : o < 6) (hi : i < 3) (hC : CT E D g Q I T) : ∃ I', f_is_resetCounters (20 + 33 * o + 18 + 5 * i) ((I, T) : Mem) = some ((I', T) : Mem) ∧ CT E (zsN D (upw (dN D) (spt o i) 0)) g (qsR Q (upw (qR Q) (spt o i) 0)) I' T ∧ FX T I I' := by
  have kin1 := ((sh.op (o := o) (by omega)).inn (i := i) (by omega)).1
  obtain ⟨C1, F1⟩ := CT_N (m := 0) hE hC ho hi
  obtain ⟨C2, F2⟩ := CT_R (m := 0) hE C1 ho hi
  refine ⟨_, ?_, C2, FX_tr F1 F2⟩
  unfold f_is_resetCounters
  simp (disch := omega) only [↓gI_t, ↓pI_t, ↓pZ_t, ↓ck_t, ↓aN_t, ↓cI_x, ↓cV_x, ↓cR_x, ↓onR_s, ↓onR_n, ↓nmI_t, ↓reduceIte, gA_t, aI_t, sI_t, aA_t, aB_t, sB_t, rmI_t, dvI_t, nI_add, pk_mul, pk_sub, nI_leI, nI_ltI, nI_eq, n_leT, n_leF, n_ltT, n_ltF, n_eqT, n_eqF, u2_ne, u2_at, u2_nj, r2_ne, r2_at, ↓i_neg1, m1_ne, m1_en, m1_lt, m1_le, m1_nlt, m1_nle, i_lits, true_and, and_true, kin1]
theorem op_reset (sh : shSm T) (hE : okE E) (ho : o < 6) : ∀ (d n i : Nat) (I : Iw), i + d = 3 → d < n → CT E (zsN D (fun s => if 3 * o ≤ s ∧ s < 3 * o + i then 0 else dN D s)) g (qsR Q (fun s => if 3 * o ≤ s ∧ s < 3 * o + i then 0 else qR Q s)) I T → ∃ I', f_op_resetCounters_10 n (20 + 33 * o + 1) (nI 3) (nI i) ((I, T) : Mem) = some ((I', T) : Mem) ∧ CT E (zsN D (fun s => if 3 * o ≤ s ∧ s < 3 * o + 3 then 0 else dN D s)) g (qsR Q (fun s => if 3 * o ≤ s ∧ s < 3 * o + 3 then 0 else qR Q s)) I' T ∧ FX T I I'
  | d, 0, i, I, _, hn, _ => by omega
  | 0, n + 1, i, I, hi, hn, hC => by
    have : i = 3 := by omega
    subst this
    refine ⟨I, ?_, hC, FX_rf⟩
    unfold f_op_resetCounters_10
    simp (disch := omega) only [↓gI_t, ↓pI_t, ↓pZ_t, ↓ck_t, ↓aN_t, ↓cI_x, ↓cV_x, ↓cR_x, ↓onR_s, ↓onR_n, ↓nmI_t, ↓reduceIte, gA_t, aI_t, sI_t, aA_t, aB_t, sB_t, rmI_t, dvI_t, nI_add, pk_mul, pk_sub, nI_leI, nI_ltI, nI_eq, n_leT, n_leF, n_ltT, n_ltF, n_eqT, n_eqF, u2_ne, u2_at, u2_nj, r2_ne, r2_at, ↓i_neg1, m1_ne, m1_en, m1_lt, m1_le, m1_nlt, m1_nle, i_lits, true_and, and_true]
  | d + 1, n + 1, i, I, hi, hn, hC => by
    have kop := sh.op (o := o) (by omega)
    have kin1 := (kop.inn (i := i) (by omega)).1
    have k3 := kop.2.2.1
    have k4 := kop.2.2.2.1
    have k5 := kop.2.2.2.2.1 i (by omega)
    obtain ⟨I1, e1, C1, F1⟩ := is_reset (i := i) sh hE ho (by omega) hC
    have key : ∀ f : Nat → Nat, upw (fun s => if 3 * o ≤ s ∧ s < 3 * o + i then 0 else f s) (spt o i) 0 = fun s => if 3 * o ≤ s ∧ s < 3 * o + (i + 1) then 0 else f s := fun f => funext fun x => by
      by_cases hz : x = spt o i
      · rw [hz, upw_eq, if_pos (by unfold spt; omega)]
      · rw [upw_ne hz]
        unfold spt at hz
        by_cases hy : 3 * o ≤ x ∧ x < 3 * o + i
        · rw [if_pos hy, if_pos (by omega)]
        · rw [if_neg hy, if_neg (by omega)]
    have k1 := key (dN D)
    have k2 := key (qR Q)
    have hn1 : zsN (zsN D (fun s => if 3 * o ≤ s ∧ s < 3 * o + i then 0 else dN D s)) (upw (fun s => if 3 * o ≤ s ∧ s < 3 * o + i then 0 else dN D s) (spt o i) 0) = zsN D (fun s => if 3 * o ≤ s ∧ s < 3 * o + (i + 1) then 0 else dN D s) := by
      rw [k1]; rfl
    have hn2 : qsR (qsR Q (fun s => if 3 * o ≤ s ∧ s < 3 * o + i then 0 else qR Q s)) (upw (fun s => if 3 * o ≤ s ∧ s < 3 * o + i then 0 else qR Q s) (spt o i) 0) = qsR Q (fun s => if 3 * o ≤ s ∧ s < 3 * o + (i + 1) then 0 else qR Q s) := by
      rw [k2]; rfl
    have C1' : CT E (zsN (zsN D (fun s => if 3 * o ≤ s ∧ s < 3 * o + i then 0 else dN D s)) (upw (fun s => if 3 * o ≤ s ∧ s < 3 * o + i then 0 else dN D s) (spt o i) 0)) g (qsR (qsR Q (fun s => if 3 * o ≤ s ∧ s < 3 * o + i then 0 else qR Q s)) (upw (fun s => if 3 * o ≤ s ∧ s < 3 * o + i then 0 else qR Q s) (spt o i) 0)) I1 T := C1
    rw [hn1, hn2] at C1'
    obtain ⟨I2, e2, C2, F2⟩ := op_reset sh hE ho d n (i + 1) I1 (by omega) (by omega) C1'
    refine ⟨I2, ?_, C2, FX_tr F1 F2⟩
    unfold f_op_resetCounters_10 f_op_resetCounters_30
    simp (disch := omega) only [↓gI_t, ↓pI_t, ↓pZ_t, ↓ck_t, ↓aN_t, ↓cI_x, ↓cV_x, ↓cR_x, ↓onR_s, ↓onR_n, ↓nmI_t, ↓reduceIte, gA_t, aI_t, sI_t, aA_t, aB_t, sB_t, rmI_t, dvI_t, nI_add, pk_mul, pk_sub, nI_leI, nI_ltI, nI_eq, n_leT, n_leF, n_ltT, n_ltF, n_eqT, n_eqF, u2_ne, u2_at, u2_nj, r2_ne, r2_at, ↓i_neg1, m1_ne, m1_en, m1_lt, m1_le, m1_nlt, m1_nle, i_lits, true_and, and_true, k3, k4, k5, kin1, e1, e2]
theorem op_resets (sh : shSm T) (hE : okE E) (ho : o < 6) (hC : CT E D g Q I T) : ∃ I', f_op_resetCounters (20 + 33 * o) ((I, T) : Mem) = some ((I', T) : Mem) ∧ CT E (zsN D (fun s => if 3 * o ≤ s ∧ s < 3 * o + 3 then 0 else dN D s)) g (qsR Q (fun s => if 3 * o ≤ s ∧ s < 3 * o + 3 then 0 else qR Q s)) I' T ∧ FX T I I' := by
  have kop := sh.op (o := o) (by omega)
  have k1 := kop.1
  have k2 := kop.2.1
  have k3 := kop.2.2.1
  have k4 := kop.2.2.2.1
  have key : ∀ f : Nat → Nat, (fun s => if 3 * o ≤ s ∧ s < 3 * o + 0 then 0 else f s) = f := fun f => funext fun x => if_neg (by omega)
  obtain ⟨I1, e1, C1, F1⟩ := op_reset (D := D) (Q := Q) (g := g) sh hE ho 3 FU 0 I (by omega) (by unfold FU; omega) (by rw [key, key]; exact hC)
  refine ⟨I1, ?_, C1, F1⟩
  unfold f_op_resetCounters
  simp (disch := omega) only [↓gI_t, ↓pI_t, ↓pZ_t, ↓ck_t, ↓aN_t, ↓cI_x, ↓cV_x, ↓cR_x, ↓onR_s, ↓onR_n, ↓nmI_t, ↓reduceIte, gA_t, aI_t, sI_t, aA_t, aB_t, sB_t, rmI_t, dvI_t, nI_add, pk_mul, pk_sub, nI_leI, nI_ltI, nI_eq, n_leT, n_leF, n_ltT, n_ltF, n_eqT, n_eqF, u2_ne, u2_at, u2_nj, r2_ne, r2_at, ↓i_neg1, m1_ne, m1_en, m1_lt, m1_le, m1_nlt, m1_nle, i_lits, true_and, and_true, k1, k2, k3, k4, e1]
theorem op_forget (sh : shSm T) (hE : okE E) (ho : o < 6) (hC : CT E (bgD D o (3 * o)) g (bgQ Q o (3 * o)) I T) : ∃ I', f_op_forgetAll (20 + 33 * o) ((I, T) : Mem) = some ((I', T) : Mem) ∧ CT E (bgD D (o + 1) (3 * (o + 1))) g (bgQ Q (o + 1) (3 * (o + 1))) I' T ∧ FX T I I' := by
  have kop := sh.op (o := o) (by omega)
  have k1 := kop.1
  have ky8 := kop.2.2.2.2.2.2.2.2.2.2.2.2.1
  have kr3 := kop.2.2.2.2.2.2.2.1
  have ky81 := ky8.1
  obtain ⟨I1, e1, f1, c1⟩ := ky_wipe (I := I) (T := T) ky8
  obtain ⟨C1, F1⟩ := CT_V hE hC ho f1 c1
  obtain ⟨C2, F2⟩ := CT_X (v := nI 0) hE C1 ho
  obtain ⟨C3, F3⟩ := CT_Y (v := nI 0) hE C2 ho
  obtain ⟨C4, F4⟩ := CT_B (v := nI 0) hE C3 ho
  obtain ⟨C5, F5⟩ := CT_I (v := nI 0) hE C4 ho
  obtain ⟨I6, e6, C6, F6⟩ := op_resets sh hE ho C5
  refine ⟨I6, ?_, ?_, FX_tr F1 (FX_tr F2 (FX_tr F3 (FX_tr F4 (FX_tr F5 F6))))⟩
  · unfold f_op_forgetAll
    simp (disch := omega) only [↓gI_t, ↓pI_t, ↓pZ_t, ↓ck_t, ↓aN_t, ↓cI_x, ↓cV_x, ↓cR_x, ↓onR_s, ↓onR_n, ↓nmI_t, ↓reduceIte, gA_t, aI_t, sI_t, aA_t, aB_t, sB_t, rmI_t, dvI_t, nI_add, pk_mul, pk_sub, nI_leI, nI_ltI, nI_eq, n_leT, n_leF, n_ltT, n_ltF, n_eqT, n_eqF, u2_ne, u2_at, u2_nj, r2_ne, r2_at, ↓i_neg1, m1_ne, m1_en, m1_lt, m1_le, m1_nlt, m1_nle, i_lits, true_and, and_true, k1, kr3, ky81, e1, e6]
  · have key : ∀ f : Nat → Int32, upw (fun x => if x < o then (0 : Int32) else f x) o (nI 0) = fun x => if x < o + 1 then (0 : Int32) else f x := fun f => funext fun x => by
      by_cases hz : x = o
      · rw [hz, upw_eq, if_pos (by omega)]; rfl
      · rw [upw_ne hz]
        by_cases hy : x < o
        · rw [if_pos hy, if_pos (by omega)]
        · rw [if_neg hy, if_neg (by omega)]
    have keyN : ∀ f : Nat → Nat, (fun s => if 3 * o ≤ s ∧ s < 3 * o + 3 then 0 else if s < 3 * o then 0 else f s) = fun s => if s < 3 * (o + 1) then 0 else f s := fun f => funext fun x => by
      by_cases h1 : 3 * o ≤ x ∧ x < 3 * o + 3
      · rw [if_pos h1, if_pos (by omega)]
      · rw [if_neg h1]
        by_cases h2 : x < 3 * o
        · rw [if_pos h2, if_pos (by omega)]
        · rw [if_neg h2, if_neg (by omega)]
    have keyV : upw (fun x => if x < o then (fun _ => none : Kst) else qV Q x) o (fun _ => none) = fun x => if x < o + 1 then (fun _ => none : Kst) else qV Q x := funext fun x => by
      by_cases hz : x = o
      · rw [hz, upw_eq, if_pos (by omega)]
      · rw [upw_ne hz]
        by_cases hy : x < o
        · rw [if_pos hy, if_pos (by omega)]
        · rw [if_neg hy, if_neg (by omega)]
    have hD : bgD D (o + 1) (3 * (o + 1)) = zsN (zsI (zsB (zsY (zsX (bgD D o (3 * o)) (upw (fun x => if x < o then (0 : Int32) else dX D x) o (nI 0))) (upw (fun x => if x < o then (0 : Int32) else dY D x) o (nI 0))) (upw (fun x => if x < o then (0 : Int32) else dB D x) o (nI 0))) (upw (fun x => if x < o then (0 : Int32) else dI D x) o (nI 0))) (fun s => if 3 * o ≤ s ∧ s < 3 * o + 3 then 0 else if s < 3 * o then 0 else dN D s) := by
      rw [key, key, key, key, keyN]
      rfl
    have hQ : bgQ Q (o + 1) (3 * (o + 1)) = qsR (qsV (bgQ Q o (3 * o)) (upw (fun x => if x < o then (fun _ => none : Kst) else qV Q x) o (fun _ => none))) (fun s => if 3 * o ≤ s ∧ s < 3 * o + 3 then 0 else if s < 3 * o then 0 else qR Q s) := by
      rw [keyV, keyN]
      rfl
    rw [hD, hQ]
    exact C6
theorem fill_all2 {a : Nat} : ∀ (d n i m : Nat) (I : Iw), tK T a = 100 → tL T a = m → m ≤ 131072 → i + d = m → d < n → ∃ g : Nat → Int32, f_ar_fill_5 n a (nI 0) (nI i) (nI m) ((I, T) : Mem) = some ((r2 I a g, T) : Mem) ∧ (∀ x, i ≤ x → x < m → g x = nI 0) ∧ ∀ x, (x < i ∨ m ≤ x) → g x = I a x
  | d, 0, i, m, I, _, _, _, _, hn => by omega
  | 0, n + 1, i, m, I, hk, hl, hm, hd, hn => by
    refine ⟨I a, ?_, fun x h1 h2 => by omega, fun x _ => rfl⟩
    unfold f_ar_fill_5
    have : r2 I a (I a) = I := r2_self
    rw [this]
    simp (disch := omega) only [↓gI_t, ↓pI_t, ↓pZ_t, ↓ck_t, ↓aN_t, ↓cI_x, ↓cV_x, ↓cR_x, ↓onR_s, ↓onR_n, ↓nmI_t, ↓reduceIte, gA_t, aI_t, sI_t, aA_t, aB_t, sB_t, rmI_t, dvI_t, nI_add, pk_mul, pk_sub, nI_leI, nI_ltI, nI_eq, n_leT, n_leF, n_ltT, n_ltF, n_eqT, n_eqF, u2_ne, u2_at, u2_nj, r2_ne, r2_at, ↓i_neg1, m1_ne, m1_en, m1_lt, m1_le, m1_nlt, m1_nle, i_lits, true_and, and_true]
  | d + 1, n + 1, i, m, I, hk, hl, hm, hd, hn => by
    obtain ⟨g, e, g1, g2⟩ := fill_all2 d n (i + 1) m (u2 I a i (nI 0)) hk hl hm (by omega) (by omega)
    refine ⟨g, ?_, fun x h1 h2 => ?_, fun x h1 => ?_⟩
    · unfold f_ar_fill_5
      have : r2 (u2 I a i (nI 0)) a g = r2 I a g := r2_over
      rw [this] at e
      simp (disch := omega) only [↓gI_t, ↓pI_t, ↓pZ_t, ↓ck_t, ↓aN_t, ↓cI_x, ↓cV_x, ↓cR_x, ↓onR_s, ↓onR_n, ↓nmI_t, ↓reduceIte, gA_t, aI_t, sI_t, aA_t, aB_t, sB_t, rmI_t, dvI_t, nI_add, pk_mul, pk_sub, nI_leI, nI_ltI, nI_eq, n_leT, n_leF, n_ltT, n_ltF, n_eqT, n_eqF, u2_ne, u2_at, u2_nj, r2_ne, r2_at, ↓i_neg1, m1_ne, m1_en, m1_lt, m1_le, m1_nlt, m1_nle, i_lits, true_and, and_true, e]
    · by_cases hz : x = i
      · rw [g2 x (by omega), hz]
        exact u2_at rfl rfl
      · exact g1 x (by omega) h2
    · rw [g2 x (by omega)]
      exact u2_nj rfl (by omega)
theorem la_wipe (sh : shSm T) (hn : 550 ≤ tN T) (hE : okE E) (hC : CT E D g Q I T) : ∃ I', f_la_wipe 18 ((I, T) : Mem) = some ((I', T) : Mem) ∧ CT E (zsU (zsM (zsT D (fun _ => 0)) 0) 0) g Q I' T ∧ FX T I I' := by
  have k18 := sh.2.2.2.2.2.2.2.2.2.2.2.1
  obtain ⟨lv, k1, k2, k3, k4, k5, k6, -⟩ := hC.2.2.2.2.2.2.2.2.2.1
  obtain ⟨g1, e1, c1, -⟩ := fill_all2 (T := T) (a := lv) (tL T lv) FU 0 (tL T lv) I k2 rfl k6 (by omega) (by unfold FU; omega)
  have CF : CT E (zsU (zsM (zsT D (fun _ => 0)) 0) 0) g Q (u2 (u2 (r2 I lv g1) 18 1 (nI 0)) 18 2 (nI 0)) T ∧ FX T I (u2 (u2 (r2 I lv g1) 18 1 (nI 0)) 18 2 (nI 0)) := by
    refine CT_lat (T' := T) (D' := zsU (zsM (zsT D (fun _ => 0)) 0) 0) hE hC hn ⟨lv, k1, k2, k3, k4, k5, k6, ?_, ?_, ?_, fun _ _ => rfl⟩ (fun a h1 h2 h3 => ?_) ⟨rfl, rfl, rfl, rfl, rfl, rfl, rfl, rfl, rfl, rfl, rfl, rfl, rfl, rfl, rfl, rfl⟩
    · rw [u2_nj rfl (by omega), u2_at rfl rfl]; rfl
    · rw [u2_at rfl rfl]; rfl
    · intro t ht
      rw [u2_ne (by omega), u2_ne (by omega), r2_at rfl]
      exact c1 t (by omega) ht
    · rw [u2_ne h2, u2_ne h2, r2_ne (fun z => h3 (by rw [k1, z]))]
  obtain ⟨C, F⟩ := CF
  refine ⟨_, ?_, C, F⟩
  unfold f_la_wipe f_ar_fill
  simp (disch := omega) only [↓gI_t, ↓pI_t, ↓pZ_t, ↓ck_t, ↓aN_t, ↓cI_x, ↓cV_x, ↓cR_x, ↓onR_s, ↓onR_n, ↓nmI_t, ↓reduceIte, gA_t, aI_t, sI_t, aA_t, aB_t, sB_t, rmI_t, dvI_t, nI_add, pk_mul, pk_sub, nI_leI, nI_ltI, nI_eq, n_leT, n_leF, n_ltT, n_ltF, n_eqT, n_eqF, u2_ne, u2_at, u2_nj, r2_ne, r2_at, ↓i_neg1, m1_ne, m1_en, m1_lt, m1_le, m1_nlt, m1_nle, i_lits, true_and, and_true, k18, k1, k2, e1]
theorem sm_beg10 (sh : shSm T) (hn : 550 ≤ tN T) (hE : okE E) : ∀ (d n o : Nat) (I : Iw), o + d = 6 → d < n → CT E (bgD D o (3 * o)) g (bgQ Q o (3 * o)) I T → ∃ I', f_sm_beginAnew_10 n 10 16 (nI 6) (nI o) ((I, T) : Mem) = some ((I', T) : Mem) ∧ CT (esQ (esT E 0) 0) (brkD (zerD D) (slow0 Q)) g (slow0 Q) I' T ∧ FX T I I'
  | d, 0, o, I, _, hn, _ => by omega
  | 0, n + 1, o, I, ho, hn', hC => by
    have : o = 6 := by omega
    subst this
    have k10 := sh.1
    have kr := sh.2.2.2.2.2.1
    have k18 := sh.2.2.2.2.2.2.2.2.2.2.2.1
    obtain ⟨I1, e1, C1, F1⟩ := la_wipe sh hn hE hC
    obtain ⟨I2, hI2⟩ : ∃ I2, I2 = u2 (u2 (u2 (u2 I1 10 8 (nI 0)) 10 11 (nI 0)) 10 9 (nI 0)) 10 14 (nI 0) := ⟨_, rfl⟩
    have f : ∀ a, a ≠ 10 → I2 a = I1 a := fun a ha => by rw [hI2, u2_ne ha, u2_ne ha, u2_ne ha, u2_ne ha]
    have fj : ∀ j, j ≠ 8 → j ≠ 11 → j ≠ 9 → j ≠ 14 → I2 10 j = I1 10 j := fun j a b c d => by rw [hI2, u2_nj rfl d, u2_nj rfl c, u2_nj rfl b, u2_nj rfl a]
    have q8 : I2 10 8 = nI 0 := by rw [hI2, u2_nj rfl (by omega), u2_nj rfl (by omega), u2_nj rfl (by omega)]; exact u2_at rfl rfl
    have q11 : I2 10 11 = nI 0 := by rw [hI2, u2_nj rfl (by omega), u2_nj rfl (by omega)]; exact u2_at rfl rfl
    have q9 : I2 10 9 = nI 0 := by rw [hI2, u2_nj rfl (by omega)]; exact u2_at rfl rfl
    have q14 : I2 10 14 = nI 0 := by rw [hI2]; exact u2_at rfl rfl
    obtain ⟨s1, s2, s3, s4⟩ := C1.2.2.2.2.2.2.2.1
    obtain ⟨v1, v2, v3, v4, v5, v6, v7⟩ := C1.2.2.2.2.2.2.2.2.2.2
    obtain ⟨C2, F2⟩ := CT_10 (q := eQ E) (t := 0) (I' := I2) (Q' := (qP Q, 0, qR (bgQ Q 6 (3 * 6)), qV (bgQ Q 6 (3 * 6)), 0, qF Q, false)) hE C1 f (fj 5 (by omega) (by omega) (by omega) (by omega)) ⟨(fj 6 (by omega) (by omega) (by omega) (by omega)).trans s1, q9, (fj 12 (by omega) (by omega) (by omega) (by omega)).trans s3, fun hq hw => (fj 13 (by omega) (by omega) (by omega) (by omega)).trans (s4 hq hw)⟩ ⟨(fj 7 (by omega) (by omega) (by omega) (by omega)).trans v3, q8, (fj 10 (by omega) (by omega) (by omega) (by omega)).trans v5, q11, q14⟩ rfl rfl
    obtain ⟨I3, e3, C3, F3⟩ := sm_ret (E := esT (esQ E (eQ E)) 0) sh hE C2
    obtain ⟨s1, s2, s3, s4⟩ := C3.2.2.2.2.2.2.2.1
    obtain ⟨v1, v2, v3, v4, v5, v6, v7⟩ := C3.2.2.2.2.2.2.2.2.2.2
    have f4 : ∀ a, a ≠ 10 → u2 I3 10 10 (nI 0) a = I3 a := fun a ha => u2_ne ha
    have fj4 : ∀ j, j ≠ 10 → u2 I3 10 10 (nI 0) 10 j = I3 10 j := fun j a => u2_nj rfl a
    obtain ⟨C4, F4⟩ := CT_10 (E := esQ (esT (esQ E (eQ E)) 0) 0) (q := 0) (t := 0) (I' := u2 I3 10 10 (nI 0)) (Q' := (qP Q, 0, qR (bgQ Q 6 (3 * 6)), qV (bgQ Q 6 (3 * 6)), 0, 0, false)) hE C3 f4 (fj4 5 (by omega)) ⟨(fj4 6 (by omega)).trans s1, (fj4 9 (by omega)).trans s2, (fj4 12 (by omega)).trans s3, fun hq => absurd rfl hq⟩ ⟨(fj4 7 (by omega)).trans v3, (fj4 8 (by omega)).trans v4, u2_at rfl rfl, (fj4 11 (by omega)).trans v6, (fj4 14 (by omega)).trans v7⟩ rfl rfl
    refine ⟨_, ?_, ?_, FX_tr F1 (FX_tr F2 (FX_tr F3 F4))⟩
    · unfold f_sm_beginAnew_10
      simp (disch := omega) only [↓gI_t, ↓pI_t, ↓pZ_t, ↓ck_t, ↓aN_t, ↓cI_x, ↓cV_x, ↓cR_x, ↓onR_s, ↓onR_n, ↓nmI_t, ↓reduceIte, gA_t, aI_t, sI_t, aA_t, aB_t, sB_t, rmI_t, dvI_t, nI_add, pk_mul, pk_sub, nI_leI, nI_ltI, nI_eq, n_leT, n_leF, n_ltT, n_ltF, n_eqT, n_eqF, u2_ne, u2_at, u2_nj, r2_ne, r2_at, ↓i_neg1, m1_ne, m1_en, m1_lt, m1_le, m1_nlt, m1_nle, i_lits, true_and, and_true, k10, kr, k18, e1, ← hI2, e3]
    · obtain ⟨c1, c2, c3, c4, c5, c6, c7, c8, c9, c10, c11⟩ := C4
      refine ⟨c1, c2, fun o i ho hi => ?_, fun o ho => ?_, c5, ⟨c6.1, fun o i v hd => by cases hd⟩, fun o ho => ?_, c8, c9, c10, fun o ho => ?_, fun o i ho hi => ?_, c11.2.2⟩
      · have h := c3 o i ho hi
        have hs : spt o i < 3 * 6 := by unfold spt; omega
        have e : (if spt o i < 3 * 6 then 0 else qR Q (spt o i)) = 0 := if_pos hs
        obtain ⟨w1, w2, w3, w4, w5⟩ := h
        refine ⟨w1, w2, w3, w4, ?_⟩
        rw [w5]
        show nI (if spt o i < 3 * 6 then 0 else qR Q (spt o i)) = nI 0
        rw [e]
      · have h := c4 o ho
        have e : (if o < 6 then (fun _ => none : Kst) else qV Q o) = fun _ => none := if_pos ho
        have h2 : KyC (u2 I3 10 10 (nI 0)) (20 + 33 * o + 2) (if o < 6 then (fun _ => none : Kst) else qV Q o) := h
        rw [e] at h2
        exact h2
      · have h := c7 o ho
        have e : ∀ f : Nat → Int32, (if o < 6 then (0 : Int32) else f o) = 0 := fun f => if_pos ho
        obtain ⟨w1, w2, w3, w4⟩ := h
        exact ⟨w1.trans (e (dX D)), w2.trans (e (dY D)), w3.trans (e (dB D)), w4.trans (e (dI D))⟩
      · have h := c11.1 o ho
        have e : (if o < 6 then (fun _ => none : Kst) else qV Q o) = fun _ => none := if_pos ho
        have h2 : KyC (u2 I3 10 10 (nI 0)) (20 + 33 * o + 8) (if o < 6 then (fun _ => none : Kst) else qV Q o) := h
        rw [e] at h2
        exact h2
      · have h := c11.2.1 o i ho hi
        have hs : spt o i < 3 * 6 := by unfold spt; omega
        have e : (if spt o i < 3 * 6 then 0 else qR Q (spt o i)) = 0 := if_pos hs
        rw [h]
        show nI (if spt o i < 3 * 6 then 0 else qR Q (spt o i)) = nI 0
        rw [e]
  | d + 1, n + 1, o, I, ho, hn', hC => by
    have k16 := sh.2.2.2.2.2.2.2.1
    have kl16 := sh.2.2.2.2.2.2.2.2.1
    have kr16 := sh.2.2.2.2.2.2.2.2.2.2.2.2.2.1 o (by omega)
    have k1 := (sh.op (o := o) (by omega)).1
    obtain ⟨I1, e1, C1, F1⟩ := op_forget sh hE (by omega) hC
    obtain ⟨I2, e2, C2, F2⟩ := sm_beg10 sh hn hE d n (o + 1) I1 (by omega) (by omega) C1
    refine ⟨I2, ?_, C2, FX_tr F1 F2⟩
    unfold f_sm_beginAnew_10 f_sm_beginAnew_30
    simp (disch := omega) only [↓gI_t, ↓pI_t, ↓pZ_t, ↓ck_t, ↓aN_t, ↓cI_x, ↓cV_x, ↓cR_x, ↓onR_s, ↓onR_n, ↓nmI_t, ↓reduceIte, gA_t, aI_t, sI_t, aA_t, aB_t, sB_t, rmI_t, dvI_t, nI_add, pk_mul, pk_sub, nI_leI, nI_ltI, nI_eq, n_leT, n_leF, n_ltT, n_ltF, n_eqT, n_eqF, u2_ne, u2_at, u2_nj, r2_ne, r2_at, ↓i_neg1, m1_ne, m1_en, m1_lt, m1_le, m1_nlt, m1_nle, i_lits, true_and, and_true, k16, kl16, kr16, k1, e1, e2]
theorem sm_begin (sh : shSm T) (hn : 550 ≤ tN T) (hE : okE E) (hC : CT E D g Q I T) : ∃ I', f_sm_beginAnew 10 ((I, T) : Mem) = some ((I', T) : Mem) ∧ CT (esQ (esT E 0) 0) (brkD (zerD D) (slow0 Q)) g (slow0 Q) I' T ∧ FX T I I' := by
  have k10 := sh.1
  have k3 := sh.2.2.2.1
  have k16 := sh.2.2.2.2.2.2.2.1
  have kl16 := sh.2.2.2.2.2.2.2.2.1
  have h0 : bgD D 0 (3 * 0) = D := rfl
  have h1 : bgQ Q 0 (3 * 0) = Q := rfl
  obtain ⟨I1, e1, C1, F1⟩ := sm_beg10 (D := D) (Q := Q) sh hn hE 6 FU 0 I (by omega) (by unfold FU; omega) (by rw [h0, h1]; exact hC)
  refine ⟨I1, ?_, C1, F1⟩
  unfold f_sm_beginAnew
  simp (disch := omega) only [↓gI_t, ↓pI_t, ↓pZ_t, ↓ck_t, ↓aN_t, ↓cI_x, ↓cV_x, ↓cR_x, ↓onR_s, ↓onR_n, ↓nmI_t, ↓reduceIte, gA_t, aI_t, sI_t, aA_t, aB_t, sB_t, rmI_t, dvI_t, nI_add, pk_mul, pk_sub, nI_leI, nI_ltI, nI_eq, n_leT, n_leF, n_ltT, n_ltF, n_eqT, n_eqF, u2_ne, u2_at, u2_nj, r2_ne, r2_at, ↓i_neg1, m1_ne, m1_en, m1_lt, m1_le, m1_nlt, m1_nle, i_lits, true_and, and_true, k10, k3, k16, kl16, e1]
end
