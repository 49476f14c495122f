/-! THE CLASS: saving, taking an item -/
theorem upw_upw {α : Type} {f : Nat → α} {k : Nat} {a b : α} : upw (upw f k a) k b = upw f k b := funext fun x => by
  by_cases h : x = k
  · rw [h, upw_eq, upw_eq]
  · rw [upw_ne h, upw_ne h, upw_ne h]
theorem mask_set : ∀ m : Fin 8, ∀ f : Fin 3, (nI m.val ||| nI 1 <<< (nI f.val &&& nI 31)) = nI (m.val ||| 1 <<< f.val) := by decide +kernel
theorem mask_all : ∀ p : Fin 4, (nI 1 <<< (nI p.val &&& nI 31)) - nI 1 = nI (2 ^ p.val - 1) := by decide +kernel
section
variable {T : Tl} {I I' : Iw} {E : Env} {D : Dy} {g : Nat → Kst} {Q : Slow} {o i : Nat}
theorem takeInput_code (sh : shSm T) (hE : okE E) (hI : Inv E D) (hC : CT E D g Q I T) (hl : dL D 0 = []) : ∃ I', f_sm_takeInput 10 20 38 ((I, T) : Mem) = some (nI (b01 (takes E D 0 0).1), ((I', T) : Mem)) ∧ CT E (takes E D 0 0).2 g Q I' T ∧ FX T I I' := by
  have hof := hC.2.2.2.2.2.2.2.1.1
  have htk := hC.2.2.2.2.2.2.2.1.2.1
  have hnp := hC.2.2.2.2.2.2.2.2.1
  have hsz := hnp.2.2.1
  rw [List.length_map] at hsz
  have h60 := hE.2.2.2.2.2.2.2.2.2.2.2
  have hle := hI.2.2.2.2.2.2.1
  have ksm := sh.1
  have k1 := sh.2.2.1
  have k2 := sh.2.2.2.2.2.2.2.2.2.2.2.2.1
  have k21 := k2.1
  have kop := sh.op (o := 0) (by omega)
  have kin := kop.inn (i := 0) (by omega)
  have kop1 := kop.1
  have kin1 := kin.1
  have kin2 := kin.2.1
  have kin3 := kin.2.2.1
  simp only [Nat.mul_zero, Nat.add_zero, Nat.reduceAdd] at kop1 kin1 kin2 kin3
  unfold f_sm_takeInput takes
  simp only [if_true]
  cases hr : (eI E)[dO D]? with
  | none =>
    have hge : (eI E).length ≤ dO D := List.getElem?_eq_none_iff.mp hr
    refine ⟨I, ?_, hC, FX_rf⟩
    simp (disch := omega) only [↓gI_t, ↓pI_t, ↓pZ_t, ↓ck_t, ↓aN_t, ↓cI_s, ↓cV_s, ↓cR_s, ↓onR_s, ↓onR_n, ↓nmI_t, ↓reduceIte, gA_t, aI_t, sI_t, aA_t, aB_t, sB_t, rmI_t, dvI_t, nI_add, pk_mul, pk_sub, nI_leI, nI_ltI, nI_eq, n_leT, n_leF, n_ltT, n_ltF, n_eqT, n_eqF, u2_ne, u2_at, u2_nj, r2_ne, r2_at, ↓i_neg1, m1_ne, m1_en, m1_lt, m1_le, m1_nlt, m1_nle, i_lits, true_and, and_true, ksm, k1, k21, hof, hsz, b01, Bool.false_eq_true]
  | some r =>
    obtain ⟨hlt, hre⟩ := List.getElem?_eq_some_iff.mp hr
    obtain ⟨a1, a2, a3⟩ := rc_at (T := T) m3_64 k2 hnp (j := dO D) (by simpa using hlt)
    simp only [List.getElem_map, hre] at a1 a2 a3
    have hin := (hC.2.2.1 0 0 (by omega) (by omega)).1
    rw [show spt 0 0 = 0 from rfl, hl] at hin
    obtain ⟨I1, e1, f1, r1⟩ := rc_add (T := T) m3_4 kin.2.2 hin (by simp) (r.1, r.2, eT E)
    obtain ⟨C1, F1⟩ := CT_L hE hC (o := 0) (i := 0) (by omega) (by omega) f1 r1
    obtain ⟨C2, F2⟩ := CT_O (m := dO D + 1) hE C1
    obtain ⟨C3, F3⟩ := CT_X (o := 0) (v := dX D 0 + nI 1) hE C2 (by omega)
    obtain ⟨C4, F4⟩ := CT_Y (o := 0) (v := dY D 0 + nI 1) hE C3 (by omega)
    have hof1 := C1.2.2.2.2.2.2.2.1.1
    obtain ⟨x1, -, -, -⟩ := C2.2.2.2.2.2.2.1 0 (by omega)
    obtain ⟨-, y1, -, -⟩ := C3.2.2.2.2.2.2.1 0 (by omega)
    simp only [gs_L, gs_O, gs_X, Nat.mul_zero, Nat.add_zero] at hof1 x1 y1
    simp (disch := omega) only [u2_ne, u2_nj] at x1 y1
    refine ⟨_, ?_, C4, FX_tr (FX_tr (FX_tr F1 F2) F3) F4⟩
    simp only [Nat.mul_zero, Nat.add_zero, Nat.reduceAdd] at e1
    simp (disch := omega) only [↓gI_t, ↓pI_t, ↓pZ_t, ↓ck_t, ↓aN_t, ↓cI_s, ↓cV_s, ↓cR_s, ↓onR_s, ↓onR_n, ↓nmI_t, ↓reduceIte, gA_t, aI_t, sI_t, aA_t, aB_t, sB_t, rmI_t, dvI_t, nI_add, pk_mul, pk_sub, nI_leI, nI_ltI, nI_eq, n_leT, n_leF, n_ltT, n_ltF, n_eqT, n_eqF, u2_ne, u2_at, u2_nj, r2_ne, r2_at, ↓i_neg1, m1_ne, m1_en, m1_lt, m1_le, m1_nlt, m1_nle, i_lits, true_and, and_true, ksm, k1, k21, hof, hsz, kin1, kin2, kin3, a1, a2, htk, e1, hof1, kop1, x1, y1, b01, Nat.mul_zero, Nat.add_zero]
/-- the pending states of one instance -/
theorem savePending_loop (sh : shSm T) (hE : okE E) (ho : o ≤ eN E + 1) (h1 : 1 ≤ o) (hi : i < 3) : ∀ (d n k : Nat) (g : Nat → Kst) (I : Iw), k + d = 16 → d < n → CfC I E → KyC I (20 + 33 * o + 2) (dK D o) → KyC I (20 + 33 * o + 5) (g o) → ∃ I', f_op_savePending_2 n (20 + 33 * o) (nI i) (nI k) ((I, T) : Mem) = some ((I', T) : Mem) ∧ Frm (20 + 33 * o + 5) 3 I I' ∧ KyC I' (20 + 33 * o + 5) (fun x => if k ≤ x.val ∧ home (eP E o) x = i then dK D o x else g o x)
  | d, 0, k, g, I, _, hn, _, _, _ => by omega
  | 0, n + 1, k, g, I, hk, hn, hC, hK, hG => by
    refine ⟨I, ?_, Frm_rf, ?_⟩
    · unfold f_op_savePending_2
      simp (disch := omega) only [↓gI_t, ↓pI_t, ↓pZ_t, ↓ck_t, ↓aN_t, ↓cI_s, ↓cV_s, ↓cR_s, ↓onR_s, ↓onR_n, ↓nmI_t, ↓reduceIte, gA_t, aI_t, sI_t, aA_t, aB_t, sB_t, rmI_t, dvI_t, nI_add, pk_mul, pk_sub, nI_leI, nI_ltI, nI_eq, n_leT, n_leF, n_ltT, n_ltF, n_eqT, n_eqF, u2_ne, u2_at, u2_nj, r2_ne, r2_at, ↓i_neg1, m1_ne, m1_en, m1_lt, m1_le, m1_nlt, m1_nle, i_lits, true_and, and_true]
    · have : (fun x : Fin 16 => if k ≤ x.val ∧ home (eP E o) x = i then dK D o x else g o x) = g o := funext fun x => if_neg (by have := x.isLt; omega)
      rw [this]
      exact hG
  | d + 1, n + 1, k, g, I, hk, hn, hC, hK, hG => by
    have n4 := hE.1
    have p3 := hE.p3 ho
    have hp := (hC.2.2.2 o ho).2.2.2
    have kop := sh.op (o := o) (by omega)
    have kop1 := kop.1
    have kopG := kop.2.2.2.2.2.2.1
    have kopK := kop.2.2.2.2.2.1
    have ky5 := kop.2.2.2.2.2.2.2.2.2.2.2.1
    have ky2 := kop.2.2.2.2.2.2.2.2.2.2.1
    have ky51 := ky5.1
    have hk16 : k < 16 := by omega
    have hkv : nI k = kv ⟨k, hk16⟩ := rfl
    have ow := fun M => op_owner (a := 20 + 33 * o) M ⟨k, hk16⟩ p3
    rw [← hkv] at ow
    have hh := home_lt (k := ⟨k, hk16⟩) (hE.p1 ho) p3
    unfold f_op_savePending_2 f_op_savePending_33
    by_cases hz : home (eP E o) ⟨k, hk16⟩ = i
    · obtain ⟨I1, e1, f1, c1⟩ := ky_copyKey (T := T) ky5 ky2 (by omega) hG hK ⟨k, hk16⟩
      rw [← hkv] at e1
      obtain ⟨I2, e2, f2, c2⟩ := savePending_loop sh hE ho h1 hi d n (k + 1) (fun x => if x = o then (fun k' => if k' = ⟨k, hk16⟩ then dK D o ⟨k, hk16⟩ else g o k') else g x) I1 (by omega) (by omega) (CfC_cg hC n4 (by rw [f1 10 (by omega)]) (f1 11 (by omega)) (fun o' _ j _ _ => by rw [f1 _ (by omega)])) (KyC_cg hK (fun a _ _ => f1 a (by omega))) (by simp only [↓reduceIte]; exact c1)
      refine ⟨I2, ?_, Frm_tr f1 f2, ?_⟩
      · simp (disch := omega) only [↓gI_t, ↓pI_t, ↓pZ_t, ↓ck_t, ↓aN_t, ↓cI_s, ↓cV_s, ↓cR_s, ↓onR_s, ↓onR_n, ↓nmI_t, ↓reduceIte, gA_t, aI_t, sI_t, aA_t, aB_t, sB_t, rmI_t, dvI_t, nI_add, pk_mul, pk_sub, nI_leI, nI_ltI, nI_eq, n_leT, n_leF, n_ltT, n_ltF, n_eqT, n_eqF, u2_ne, u2_at, u2_nj, r2_ne, r2_at, ↓i_neg1, m1_ne, m1_en, m1_lt, m1_le, m1_nlt, m1_nle, i_lits, true_and, and_true, kop1, hp, ow, hz, kopG, kopK, ky51, e1, e2]
      · have : (fun x : Fin 16 => if k ≤ x.val ∧ home (eP E o) x = i then dK D o x else g o x) = (fun x : Fin 16 => if k + 1 ≤ x.val ∧ home (eP E o) x = i then dK D o x else (if o = o then (fun k' => if k' = ⟨k, hk16⟩ then dK D o ⟨k, hk16⟩ else g o k') else g o) x) := funext fun x => by
          simp only [↓reduceIte]
          by_cases hx : x = ⟨k, hk16⟩
          · subst hx
            simp [hz]
          · have : x.val ≠ k := fun w => hx (Fin.ext w)
            by_cases hy : k ≤ x.val ∧ home (eP E o) x = i
            · rw [if_pos hy, if_pos ⟨by omega, hy.2⟩]
            · rw [if_neg hy, if_neg (by omega), if_neg hx]
        rw [this]
        exact c2
    · obtain ⟨I2, e2, f2, c2⟩ := savePending_loop sh hE ho h1 hi d n (k + 1) g I (by omega) (by omega) hC hK hG
      refine ⟨I2, ?_, f2, ?_⟩
      · simp (disch := omega) only [↓gI_t, ↓pI_t, ↓pZ_t, ↓ck_t, ↓aN_t, ↓cI_s, ↓cV_s, ↓cR_s, ↓onR_s, ↓onR_n, ↓nmI_t, ↓reduceIte, gA_t, aI_t, sI_t, aA_t, aB_t, sB_t, rmI_t, dvI_t, nI_add, pk_mul, pk_sub, nI_leI, nI_ltI, nI_eq, n_leT, n_leF, n_ltT, n_ltF, n_eqT, n_eqF, u2_ne, u2_at, u2_nj, r2_ne, r2_at, ↓i_neg1, m1_ne, m1_en, m1_lt, m1_le, m1_nlt, m1_nle, i_lits, true_and, and_true, kop1, hp, ow, hz, e2]
      · have : (fun x : Fin 16 => if k ≤ x.val ∧ home (eP E o) x = i then dK D o x else g o x) = (fun x : Fin 16 => if k + 1 ≤ x.val ∧ home (eP E o) x = i then dK D o x else g o x) := funext fun x => by
          by_cases hx : x = ⟨k, hk16⟩
          · subst hx
            rw [if_neg (fun w => hz w.2), if_neg (fun w => hz w.2)]
          · have : x.val ≠ k := fun w => hx (Fin.ext w)
            by_cases hy : k ≤ x.val ∧ home (eP E o) x = i
            · rw [if_pos hy, if_pos ⟨by omega, hy.2⟩]
            · rw [if_neg hy, if_neg (by omega)]
        rw [this]
        exact c2
def gSav (E : Env) (D : Dy) (g : Nat → Kst) (o i : Nat) : Nat → Kst := upw g o (fun x => if home (eP E o) x = i then dK D o x else g o x)
theorem CT_saves (hE : okE E) (h : CT E D g Q I T) (hs : vS E o i) (h1 : 1 ≤ o) (f : ∀ a, (a < 20 + 33 * o + 5 ∨ 20 + 33 * o + 8 ≤ a) → a ≠ 20 + 33 * o + 18 + 5 * i → I' a = I a) (fj : ∀ j, j ≠ 5 → I' (20 + 33 * o + 18 + 5 * i) j = I (20 + 33 * o + 18 + 5 * i) j) (f5 : I' (20 + 33 * o + 18 + 5 * i) 5 = nI (dN D (spt o i))) (hn : KyC I' (20 + 33 * o + 5) (fun x => if home (eP E o) x = i then dK D o x else g o x)) : CT E (saves E D o i) (gSav E D g o i) Q I' T ∧ FX T I I' := by
  obtain ⟨h1', h2, h3, h4, h5, h6, h7, h8, h9, h10, h11⟩ := h
  have n4 := hE.1
  have ho := hs.1
  have i3 := hs.i3 hE
  have hin : ∀ o' i', o' < 6 → i' < 3 → (∀ j, j ≠ 5 → I' (20 + 33 * o' + 18 + 5 * i') j = I (20 + 33 * o' + 18 + 5 * i') j) ∧ (¬ (o' = o ∧ i' = i) → I' (20 + 33 * o' + 18 + 5 * i') = I (20 + 33 * o' + 18 + 5 * i')) := fun o' i' ho' hi' => by
    by_cases hz : o' = o ∧ i' = i
    · rw [hz.1, hz.2]; exact ⟨fj, fun w => absurd ⟨rfl, rfl⟩ w⟩
    · have ha := adr_ne i3 hi' hz
      have hb := adr_op (o := o') hi' o
      have e := f (20 + 33 * o' + 18 + 5 * i') (by omega) (by omega)
      exact ⟨fun j _ => by rw [e], fun _ => e⟩
  have hq := adr_in (o := o) (i := i) (by omega) i3 (20 + 33 * o + 18 + 5 * i) (by omega) (by omega)
  have hins : InsC I' D := fun o' i' ho' hi' => InC_cg (h3 o' i' ho' hi') same5 (fun j _ => by
    rcases (by omega : j = 5 ∨ j ≠ 5) with hj | hj
    · omega
    · exact (hin o' i' ho' hi').1 j hj) (fun a ha hb => by
    have hx := adr_in ho' hi' a (by omega) (by omega)
    refine f a (by omega) (fun z => ?_)
    by_cases hz : o' = o ∧ i' = i
    · obtain ⟨rfl, rfl⟩ := hz; omega
    · have := adr_ne i3 hi' hz; omega)
  have hv6 : ∀ o' i', o' < 6 → i' < 3 → I' (20 + 33 * o' + 18 + 5 * i') 6 = I (20 + 33 * o' + 18 + 5 * i') 6 := fun o' i' ho' hi' => (hin o' i' ho' hi').1 6 (by omega)
  have hpg : PgC I' E (saves E D o i) (gSav E D g o i) := by
    refine ⟨fun k => ?_, fun o' i' hs' hd => ?_⟩
    · unfold gSav
      rw [upw_ne (by omega)]
      exact h6.1 k
    · have i3' := hs'.i3 hE
      have ho' := hs'.1
      unfold saves at hd ⊢
      unfold gSav
      simp only [gs_D, gs_R, gs_G] at hd ⊢
      by_cases hz : o' = o ∧ i' = i
      · obtain ⟨rfl, rfl⟩ := hz
        rw [upw_eq, upw_eq, upw_eq]
        refine ⟨fun k hk => ?_, f5⟩
        rw [if_pos hk, if_pos hk]
      · have hne : spt o' i' ≠ spt o i := spt_ne i3' i3 hz
        rw [upw_ne hne] at hd ⊢
        obtain ⟨b1, b2⟩ := h6.2 o' i' hs' hd
        rw [(hin o' i' (by omega) i3').2 hz]
        refine ⟨fun k hk => ?_, b2⟩
        by_cases hy : o' = o
        · subst hy
          rw [upw_eq, upw_eq]
          rw [if_neg (fun w => hz ⟨rfl, by omega⟩), if_neg (fun w => hz ⟨rfl, by omega⟩)]
          exact b1 k hk
        · rw [upw_ne hy, upw_ne hy]
          exact b1 k hk
  have hpe : PeC I' (gSav E D g o i) := fun o' ho' => by
    unfold gSav
    by_cases hy : o' = o
    · subst hy
      rw [upw_eq]
      exact hn
    · rw [upw_ne hy]
      have hb := adr_op (o := o) i3 o'
      exact KyC_cg (h5 o' ho') (fun a _ _ => f a (by omega) (by omega))
  clear fj f5 hn
  have b1 : 20 + 33 * o + 18 ≤ 20 + 33 * o + 18 + 5 * i := by omega
  have b2 : 20 + 33 * o + 18 + 5 * i ≤ 20 + 33 * o + 28 := by omega
  clear hin
  generalize 20 + 33 * o + 18 + 5 * i = q at f b1 b2 hq
  refine ⟨⟨CfC_cg h1' n4 (by rw [f 10 (by omega) (by omega)]) (f 11 (by omega) (by omega)) (fun o ho j _ _ => by rw [f _ (by omega) (by omega)]), ChsC_cg h2 (fun a _ _ => f a (by omega) (by omega)), hins, KsC_cg h4 (fun a _ _ _ _ => f a (by omega) (by omega)), hpe, hpg, StC_cg h7 (fun o _ j _ _ => by rw [f _ (by omega) (by omega)]), ScC_cg h8 (f 10 (by omega) (by omega)), NpC_cg h9 (fun a _ _ => f a (by omega) (by omega)), LaC_cg h10 (f 18 (by omega) (by omega)) (fun a _ => f a (by omega) (by omega)), VsC_cg h11 (fun a _ _ _ _ => f a (by omega) (by omega)) hv6 (by rw [f 10 (by omega) (by omega)]; exact ⟨rfl, rfl, rfl, rfl, rfl⟩)⟩, fun a _ _ _ => f a (by omega) (by omega)⟩
/-- an instance whose inputs have all been stopped -/
theorem saveInst_code (sh : shSm T) (hE : okE E) (hC : CT E D g Q I T) (hs : vS E o i) (h1 : 1 ≤ o) (hW : o = eN E + 1 → dW D < eP E (eN E + 1)) : ∃ I', f_sm_saveInstance 10 (nI i) (20 + 33 * o) (20 + 33 * o + 18 + 5 * i) ((I, T) : Mem) = some ((I', T) : Mem) ∧ CT E (if o = eN E + 1 then zsW (saves E (zsS D (upw (dS D) (spt o i) 0)) o i) (dW D + 1) else zsH (saves E (zsS D (upw (dS D) (spt o i) 0)) o i) (upw (dH D) (spt o i) true)) (gSav E D g o i) Q I' T ∧ FX T I I' := by
  have n4 := hE.1
  have ho := hs.1
  have i3 := hs.i3 hE
  have kop := sh.op (o := o) (by omega)
  have kop1 := kop.1
  have kin1 := (kop.inn i3).1
  have ksm := sh.1
  obtain ⟨C1, F1⟩ := CT_S (o := o) (i := i) (m := 0) hE hC (by omega) i3
  have hct := (C1.2.2.1 o i (by omega) i3).2.2.2.2
  simp only [gs_S] at hct
  obtain ⟨I1, hI1⟩ : ∃ I1, I1 = u2 I (20 + 33 * o + 18 + 5 * i) 2 (nI 0) := ⟨_, rfl⟩
  rw [← hI1] at C1 F1 hct
  obtain ⟨I2, hI2⟩ : ∃ I2, I2 = u2 I1 (20 + 33 * o + 18 + 5 * i) 5 (nI (dN D (spt o i))) := ⟨_, rfl⟩
  have hb := adr_op (o := o) i3 o
  have hC2 : CfC I2 E := CfC_cg C1.1 n4 (by rw [hI2, u2_ne (by omega)]) (by rw [hI2, u2_ne (by omega)]) (fun o' ho' j _ _ => by
    have := adr_op (o := o) i3 o'
    rw [hI2, u2_ne (by omega)])
  have hK2 : KyC I2 (20 + 33 * o + 2) (dK D o) := KyC_cg (C1.2.2.2.1 o (by omega)) (fun a _ _ => by rw [hI2, u2_ne (by omega)])
  have hG2 : KyC I2 (20 + 33 * o + 5) (g o) := KyC_cg (C1.2.2.2.2.1 o (by omega)) (fun a _ _ => by rw [hI2, u2_ne (by omega)])
  obtain ⟨I3, e1, f1, c1⟩ := savePending_loop (T := T) (D := D) sh hE ho h1 i3 16 FU 0 g I2 (by omega) (by unfold FU; omega) hC2 hK2 hG2
  have hhom : (fun x : Fin 16 => if 0 ≤ x.val ∧ home (eP E o) x = i then dK D o x else g o x) = (fun x : Fin 16 => if home (eP E o) x = i then dK D o x else g o x) := funext fun x => by simp
  rw [hhom] at c1
  have hq3 : I3 (20 + 33 * o + 18 + 5 * i) = I2 (20 + 33 * o + 18 + 5 * i) := f1 _ (by omega)
  obtain ⟨C3, F3⟩ := CT_saves (D := zsS D (upw (dS D) (spt o i) 0)) (I' := I3) hE C1 hs h1 (fun a h3 h4 => by rw [f1 a (by omega), hI2, u2_ne h4]) (fun j hj => by rw [hq3, hI2, u2_nj rfl hj]) (by rw [hq3, hI2]; exact u2_at rfl rfl) c1
  have hg3 : gSav E (zsS D (upw (dS D) (spt o i) 0)) g o i = gSav E D g o i := rfl
  rw [hg3] at C3
  have hkd := (C3.1.2.2.2 o ho).1
  have e2 : f_op_savePending (20 + 33 * o) (nI i) ((I2, T) : Mem) = some ((I3, T) : Mem) := by
    unfold f_op_savePending
    simp only [i_lits]
    exact e1
  have pre : f_sm_saveInstance 10 (nI i) (20 + 33 * o) (20 + 33 * o + 18 + 5 * i) ((I, T) : Mem) = (if nI (eK E o) = nI 8 then gI 11 13 ((I3, T) : Mem) 10 fun v7 => pI 11 13 ((I3, T) : Mem) 10 (v7 - (1 : Int32)) fun M8 => some M8 else pZ 3 1 ((I3, T) : Mem) (20 + 33 * o + 18 + 5 * i) (1 : Int32) fun M6 => some M6) := by
    unfold f_sm_saveInstance
    simp (disch := omega) only [↓pI_t, ↓gI_t, ↓ck_t, ↓cV_s, kin1, i_lits, ← hI1, hct, ← hI2, kop1, e2, hkd]
  rw [pre]
  by_cases hz : o = eN E + 1
  · have hk8 : eK E o = 8 := by rw [hz]; exact hE.2.2.2.2.1
    have hW' := hW hz
    have p3 := hE.p3 (o := eN E + 1) (by omega)
    by_cases hq : eQ E = 0
    · obtain ⟨C4, F4⟩ := CT_W (m := dW D + 1) (v := I3 10 13 - nI 1) hE C3 (fun w => absurd hq w)
      refine ⟨_, ?_, by rw [if_pos hz]; exact C4, FX_tr (FX_tr F1 F3) F4⟩
      simp (disch := omega) only [↓gI_t, ↓pI_t, ↓pZ_t, ↓ck_t, ↓aN_t, ↓cI_s, ↓cV_s, ↓cR_s, ↓onR_s, ↓onR_n, ↓nmI_t, ↓reduceIte, gA_t, aI_t, sI_t, aA_t, aB_t, sB_t, rmI_t, dvI_t, nI_add, pk_mul, pk_sub, nI_leI, nI_ltI, nI_eq, n_leT, n_leF, n_ltT, n_ltF, n_eqT, n_eqF, u2_ne, u2_at, u2_nj, r2_ne, r2_at, ↓i_neg1, m1_ne, m1_en, m1_lt, m1_le, m1_nlt, m1_nle, i_lits, true_and, and_true, hk8, ksm]
    · have hsk := C3.2.2.2.2.2.2.2.1.2.2.2 hq (Nat.le_of_lt hW')
      have hsk' : I3 10 13 = nI (eP E (eN E + 1) - dW D) := hsk
      obtain ⟨C4, F4⟩ := CT_W (m := dW D + 1) (v := nI (eP E (eN E + 1) - (dW D + 1))) hE C3 (fun _ => rfl)
      refine ⟨_, ?_, by rw [if_pos hz]; exact C4, FX_tr (FX_tr F1 F3) F4⟩
      have hx : eP E (eN E + 1) - dW D - 1 = eP E (eN E + 1) - (dW D + 1) := by omega
      simp (disch := omega) only [↓gI_t, ↓pI_t, ↓pZ_t, ↓ck_t, ↓aN_t, ↓cI_s, ↓cV_s, ↓cR_s, ↓onR_s, ↓onR_n, ↓nmI_t, ↓reduceIte, gA_t, aI_t, sI_t, aA_t, aB_t, sB_t, rmI_t, dvI_t, nI_add, pk_mul, pk_sub, nI_leI, nI_ltI, nI_eq, n_leT, n_leF, n_ltT, n_ltF, n_eqT, n_eqF, u2_ne, u2_at, u2_nj, r2_ne, r2_at, ↓i_neg1, m1_ne, m1_en, m1_lt, m1_le, m1_nlt, m1_nle, i_lits, true_and, and_true, hk8, ksm, hsk', hx]
  · have hk8 := hE.2.2.2.2.2.1 o h1 (by omega)
    obtain ⟨C4, F4⟩ := CT_H (o := o) (i := i) (b := true) hE C3 (by omega) i3
    refine ⟨_, ?_, by rw [if_neg hz]; exact C4, FX_tr (FX_tr F1 F3) F4⟩
    simp (disch := omega) only [↓gI_t, ↓pI_t, ↓pZ_t, ↓ck_t, ↓aN_t, ↓cI_s, ↓cV_s, ↓cR_s, ↓onR_s, ↓onR_n, ↓nmI_t, ↓reduceIte, gA_t, aI_t, sI_t, aA_t, aB_t, sB_t, rmI_t, dvI_t, nI_add, pk_mul, pk_sub, nI_leI, nI_ltI, nI_eq, n_leT, n_leF, n_ltT, n_ltF, n_eqT, n_eqF, u2_ne, u2_at, u2_nj, r2_ne, r2_at, ↓i_neg1, m1_ne, m1_en, m1_lt, m1_le, m1_nlt, m1_nle, i_lits, true_and, and_true, kin1, b01]
end
