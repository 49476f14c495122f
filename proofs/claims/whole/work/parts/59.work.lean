/-! THE CLASS: an item taken; the working of an instance -/
theorem nI_lit1 : (1 : Int32) = nI 1 := rfl
theorem Dy_ext {D D' : Dy} (hC : dC D = dC D') (hL : dL D = dL D') (hH : dH D = dH D') (hS : dS D = dS D') (hP : dP D = dP D') (hN : dN D = dN D') (hD : dD D = dD D') (hR : dR D = dR D') (hK : dK D = dK D') (hG : dG D = dG D') (hX : dX D = dX D') (hY : dY D = dY D') (hB : dB D = dB D') (hI : dI D = dI D') (hT : dT D = dT D') (hM : dM D = dM D') (hU : dU D = dU D') (hO : dO D = dO D') (hW : dW D = dW D') : D = D' := by
  obtain ⟨a0, a1, a2, a3, a4, a5, a6, a7, a8, a9, a10, a11, a12, a13, a14, a15, a16, a17, a18⟩ := D
  obtain ⟨b0, b1, b2, b3, b4, b5, b6, b7, b8, b9, b10, b11, b12, b13, b14, b15, b16, b17, b18⟩ := D'
  simp only [dC, dL, dH, dS, dP, dN, dD, dR, dK, dG, dX, dY, dB, dI, dT, dM, dU, dO, dW] at *
  subst hC hL hH hS hP hN hD hR hK hG hX hY hB hI hT hM hU hO hW
  rfl
section
variable {T : Tl} {I I' : Iw} {E : Env} {D : Dy} {g : Nat → Kst} {Q : Slow} {o i : Nat}
/-- states and list of an operator's instance, both new -/
theorem CT_KL {f' : Kst} {l : List Rec} (hE : okE E) (h : CT E D g Q I T) (ho : o < 6) (hi : i < 3) (f : ∀ x, (x < 20 + 33 * o + 2 ∨ 20 + 33 * o + 2 + 3 ≤ x) → (x < 20 + 33 * o + 18 + 5 * i + 1 ∨ 20 + 33 * o + 18 + 5 * i + 1 + 4 ≤ x) → I' x = I x) (hK : KyC I' (20 + 33 * o + 2) f') (hL : Rng I' (20 + 33 * o + 18 + 5 * i + 1) 4 l) : CT E (zsL (zsK D (upw (dK D) o f')) (upw (dL D) (spt o i) l)) g Q I' T ∧ FX T I I' := by
  obtain ⟨I1, hI1⟩ : ∃ I1 : Iw, I1 = fun a => if 20 + 33 * o + 2 ≤ a ∧ a < 20 + 33 * o + 5 then I' a else I a := ⟨_, rfl⟩
  have g1 : Frm (20 + 33 * o + 2) 3 I I1 := fun a ha => by rw [hI1]; exact if_neg (by omega)
  have g2 : ∀ a, 20 + 33 * o + 2 ≤ a → a < 20 + 33 * o + 2 + 3 → I1 a = I' a := fun a h1 h2 => by rw [hI1]; exact if_pos (by omega)
  obtain ⟨C1, F1⟩ := CT_K hE h ho g1 (KyC_cg hK g2)
  have g3 : Frm (20 + 33 * o + 18 + 5 * i + 1) 4 I1 I' := fun a ha => by
    by_cases hz : 20 + 33 * o + 2 ≤ a ∧ a < 20 + 33 * o + 5
    · exact (g2 a (by omega) (by omega)).symm
    · have e1 := f a (by omega) ha
      have e2 : I1 a = I a := g1 a (by omega)
      rw [e1, e2]
  obtain ⟨C2, F2⟩ := CT_L hE C1 ho hi g3 hL
  exact ⟨C2, FX_tr F1 F2⟩
/-- a later latency -/
theorem CT_lat {T' : Tl} {D' : Dy} (hE : okE E) (h : CT E D g Q I T) (hn : 550 ≤ tN T) (hL : LaC I' T' D') (f : ∀ a, a < tN T → a ≠ 18 → tR T 18 0 ≠ some a → I' a = I a) (hr : dC D' = dC D ∧ dL D' = dL D ∧ dH D' = dH D ∧ dS D' = dS D ∧ dP D' = dP D ∧ dN D' = dN D ∧ dD D' = dD D ∧ dR D' = dR D ∧ dK D' = dK D ∧ dG D' = dG D ∧ dX D' = dX D ∧ dY D' = dY D ∧ dB D' = dB D ∧ dI D' = dI D ∧ dO D' = dO D ∧ dW D' = dW D) : CT E D' g Q I' T' ∧ FX T I I' := by
  obtain ⟨h1, h2, h3, h4, h5, h6, h7, h8, h9, h10, h11⟩ := h
  obtain ⟨r1, r2, r3, r4, r5, r6, r7, r8, r9, r10, r11, r12, r13, r14, r15, r16⟩ := hr
  have n4 := hE.1
  obtain ⟨lv, k1, k2, k3, k4, -⟩ := h10
  have f0 : ∀ a, a < 488 → a ≠ 18 → a ≠ 19 → I' a = I a := fun a h1 h2 h3 => f a (by omega) h2 (fun z => by
    rw [k1] at z
    cases z
    omega)
  refine ⟨⟨CfC_cg h1 n4 (by rw [f0 10 (by omega) (by omega) (by omega)]) (f0 11 (by omega) (by omega) (by omega)) (fun o ho j _ _ => by rw [f0 _ (by omega) (by omega) (by omega)]), ?_, ?_, ?_, PeC_cg h5 (fun a _ _ _ _ => f0 a (by omega) (by omega) (by omega)), ?_, ?_, ?_, NpC_cg h9 (fun a _ _ => f0 a (by omega) (by omega) (by omega)), hL, VsC_cg h11 (fun a _ _ _ _ => f0 a (by omega) (by omega) (by omega)) (fun o i ho hi => by
    have := adr_in ho hi (20 + 33 * o + 18 + 5 * i) (by omega) (by omega)
    rw [f0 _ (by omega) (by omega) (by omega)]) (by rw [f0 10 (by omega) (by omega) (by omega)]; exact ⟨rfl, rfl, rfl, rfl, rfl⟩)⟩, fun a ha hb hc => ?_⟩
  · unfold ChsC; rw [r1]; exact ChsC_cg h2 (fun a _ _ => f0 a (by omega) (by omega) (by omega))
  · exact fun o' i' ho' hi' => InC_cg (h3 o' i' ho' hi') ⟨by rw [r2], by rw [r3], by rw [r4], by rw [r5], by rw [r6]⟩ (fun j _ => by
      have := adr_in ho' hi' (20 + 33 * o' + 18 + 5 * i') (by omega) (by omega)
      rw [f0 _ (by omega) (by omega) (by omega)]) (fun a _ _ => by
      have := adr_in ho' hi' a (by omega) (by omega)
      exact f0 a (by omega) (by omega) (by omega))
  · unfold KsC; rw [r9]; exact KsC_cg h4 (fun a _ _ _ _ => f0 a (by omega) (by omega) (by omega))
  · unfold PgC; rw [r7, r8, r10]; exact PgC_cg hE h6 (fun o' i' ho' hi' => by
      have := adr_in ho' hi' (20 + 33 * o' + 18 + 5 * i') (by omega) (by omega)
      rw [f0 _ (by omega) (by omega) (by omega)])
  · unfold StC; rw [r11, r12, r13, r14]; exact StC_cg h7 (fun o ho j _ _ => by rw [f0 _ (by omega) (by omega) (by omega)])
  · unfold ScC; rw [r15, r16]; exact ScC_cg h8 (f0 10 (by omega) (by omega) (by omega))
  · by_cases h18 : a = 18
    · omega
    · exact f a ha h18 hc
theorem takeItem_none (sh : shSm T) (hE : okE E) (hI : Inv E D) (hC : CT E D g Q I T) (hs : vS E o i) (h1 : 1 ≤ o) (hP : dP D (spt o i) < 3) (hr : ready E D o i = none) : f_sm_takeItem 10 (nI o) (nI i) (20 + 33 * o) (20 + 33 * o + 18 + 5 * i) ((I, T) : Mem) = some (nI 0, ((I, T) : Mem)) := by
  have n4 := hE.1
  have ho := hs.1
  have i3 := hs.i3 hE
  have e1 := sm_sizeOf (T := T) (o := o - 1) sh hC.1 n4 (by omega)
  rw [if_pos (by omega)] at e1
  have e2 := sm_ready (T := T) sh hC.1 hE hC.2.1 hI h1 hs (hC.2.2.1 o i (by omega) i3) hP
  rw [hr] at e2
  have e2' : f_sm_inputToTake 10 (nI o) (nI i) ((I, T) : Mem) = some (m1, ((I, T) : Mem)) := e2
  have e3 := sm_chNo (T := T) (o := o - 1) sh hC.1 hE (by omega) m1 (nI i) (fun w => by
    obtain ⟨-, a, b, h2, -, h3, -⟩ := w
    have p3 := hE.p3 (o := o - 1) (by omega)
    exact m1_en (k := a) (by omega) h2)
  have ksm := sh.1
  unfold f_sm_takeItem
  simp (disch := omega) only [↓gI_t, ↓pI_t, ↓pZ_t, ↓ck_t, ↓aN_t, ↓cI_s, ↓cV_s, ↓cR_s, ↓onR_s, ↓onR_n, ↓nmI_t, ↓reduceIte, gA_t, aI_t, sI_t, aA_t, aB_t, sB_t, rmI_t, dvI_t, nI_add, pk_mul, pk_sub, nI_leI, nI_ltI, nI_eq, n_leT, n_leF, n_ltT, n_ltF, n_eqT, n_eqF, u2_ne, u2_at, u2_nj, r2_ne, r2_at, ↓i_neg1, m1_ne, m1_en, m1_lt, m1_le, m1_nlt, m1_nle, i_lits, true_and, and_true, ksm, e1, e2', e3]
theorem take175 (sh : shSm T) (hE : okE E) (hC : CT E D g Q I T) (hs : vS E o i) (h1 : 1 ≤ o) (hA : ∀ o, 1 ≤ o → o ≤ eN E → eK E o = 3 → ∃ c, c ≤ 3 ∧ eA E o = nI c) (r : Rec) (hl : dL D (spt o i) = []) : ∃ I', f_sm_takeItem_175 (20 + 33 * o) (20 + 33 * o + 18 + 5 * i) (kv r.1) r.2.1 (nI r.2.2) ((I, T) : Mem) = some (nI 1, ((I', T) : Mem)) ∧ CT E (zsY (zsL (zsK D (upw (dK D) o (fun k => if k = r.1 then (proc (eK E o) (eA E o) (eB E o) (dK D o r.1) r.1 r.2.1).2 else dK D o k))) (upw (dL D) (spt o i) ((proc (eK E o) (eA E o) (eB E o) (dK D o r.1) r.1 r.2.1).1.map fun x => (x.1, x.2, r.2.2)))) (upw (dY D) o (dY D o + nI (proc (eK E o) (eA E o) (eB E o) (dK D o r.1) r.1 r.2.1).1.length))) g Q I' T ∧ FX T I I' := by
  have n4 := hE.1
  have ho := hs.1
  have i3 := hs.i3 hE
  have kop := sh.op (o := o) (by omega)
  have kin := kop.inn i3
  obtain ⟨q1, q2, q3, q4⟩ := hC.1.2.2.2 o ho
  have hin := (hC.2.2.1 o i (by omega) i3).1
  rw [hl] at hin
  have hb := adr_op (o := o) i3 o
  have ky2 := kop.2.2.2.2.2.2.2.2.2.2.1
  obtain ⟨I1, e1, r1, c1, f1⟩ := op_handle (T := T) (a := 20 + 33 * o) (q := 20 + 33 * o + 2) (w := 20 + 33 * o + 18 + 5 * i + 1) kop.1 q1 q2 q3 (kind_le hE ho) (fun z => by
    by_cases hz : o = eN E + 1
    · rw [hz, hE.2.2.2.2.1] at z; omega
    · exact hA o h1 (by omega) z) ky2 (hC.2.2.2.1 o (by omega)) kin.2.2 hin (by omega) (by omega) (by omega) r.1 r.2.1 r.2.2
  obtain ⟨C1, F1⟩ := CT_KL hE hC (by omega) i3 f1 c1 r1
  obtain ⟨C2, F2⟩ := CT_Y (o := o) (v := dY D o + nI (proc (eK E o) (eA E o) (eB E o) (dK D o r.1) r.1 r.2.1).1.length) hE C1 (by omega)
  have hy := (C1.2.2.2.2.2.2.1 o (by omega)).2.1
  have hy' : I1 (20 + 33 * o) 11 = dY D o := hy
  have hsz := r1.2.2.1
  rw [List.length_map] at hsz
  have kop1 := kop.1
  have kopK := kop.2.2.2.2.2.1
  have kin1 := kin.1
  have kin2 := kin.2.1
  have kin3 := kin.2.2.1
  refine ⟨_, ?_, C2, FX_tr F1 F2⟩
  unfold f_sm_takeItem_175
  simp (disch := omega) only [↓gI_t, ↓pI_t, ↓pZ_t, ↓ck_t, ↓aN_t, ↓cI_s, ↓cV_s, ↓cR_s, ↓onR_s, ↓onR_n, ↓nmI_t, ↓reduceIte, gA_t, aI_t, sI_t, aA_t, aB_t, sB_t, rmI_t, dvI_t, nI_add, pk_mul, pk_sub, nI_leI, nI_ltI, nI_eq, n_leT, n_leF, n_ltT, n_ltF, n_eqT, n_eqF, u2_ne, u2_at, u2_nj, r2_ne, r2_at, ↓i_neg1, m1_ne, m1_en, m1_lt, m1_le, m1_nlt, m1_nle, i_lits, true_and, and_true, kop1, kopK, kin1, kin2, e1, hy', kin3, hsz]
theorem takes_bar {f : Nat} {q : List Bt} (h1 : 1 ≤ o) (hr : ready E D o i = some f) (hq : (dC D (lin (o - 1) f i)).1 = none :: q) : takes E D o i = (true, mvTB E D o i f q) := by
  unfold takes
  rw [if_neg (by omega)]
  simp only [hr, hq]
theorem takes_rec {f : Nat} {r : Rec} {l : List Rec} {q : List Bt} (h1 : 1 ≤ o) (hr : ready E D o i = some f) (hq : (dC D (lin (o - 1) f i)).1 = some (r :: l) :: q) : takes E D o i = (true, mvTR E D o i f r l q) := by
  unfold takes
  rw [if_neg (by omega)]
  simp only [hr, hq]
theorem sunk_lt (hE : okE E) (hI : Inv E D) (hs : vS E o i) (hz : o = eN E + 1) (t3 : dD D (spt o i) = false) : dW D < eP E (eN E + 1) := by
  have i3 := hs.i3 hE
  have hw := hI.2.2.2.2.2.1
  rw [hw]
  have e := sumN_upd (n := eP E (eN E + 1)) (g := fun j => b01 (dD D (spt (eN E + 1) j))) (g' := fun j => b01 (upw (dD D) (spt o i) true (spt (eN E + 1) j))) (k := i) (by rw [← hz]; exact hs.2) (fun a ha hn => by
    rw [upw_ne (spt_ne (Nat.lt_of_lt_of_le ha (hE.p3 (Nat.le_refl _))) i3 (by omega))])
  have hle : ∀ (n : Nat) (gg : Nat → Bool), sumN n (fun j => b01 (gg j)) ≤ n := fun n gg => by
    induction n with
    | zero => exact Nat.le_refl _
    | succ n ih =>
      simp only [sumN]
      have : b01 (gg n) ≤ 1 := by unfold b01; split <;> omega
      omega
  have h9 := hle (eP E (eN E + 1)) (fun j => upw (dD D) (spt o i) true (spt (eN E + 1) j))
  simp only [← hz, upw_eq, t3] at e h9 ⊢
  simp only [b01] at e h9 ⊢
  simp at e h9 ⊢
  omega
theorem takeItem_bar (sh : shSm T) (hE : okE E) (hI : Inv E D) (hC : CT E D g Q I T) (hs : vS E o i) (h1 : 1 ≤ o) (hP : dP D (spt o i) < 3) {f : Nat} (hr : ready E D o i = some f) {q : List Bt} (hq' : (dC D (lin (o - 1) f i)).1 = none :: q) : ∃ g' I', f_sm_takeItem 10 (nI o) (nI i) (20 + 33 * o) (20 + 33 * o + 18 + 5 * i) ((I, T) : Mem) = some (nI 1, ((I', T) : Mem)) ∧ CT E (mvTB E D o i f q) g' Q I' T ∧ FX T I I' := by
  have n4 := hE.1
  have ho := hs.1
  have i3 := hs.i3 hE
  have e1 := sm_sizeOf (T := T) (o := o - 1) sh hC.1 n4 (by omega)
  rw [if_pos (by omega)] at e1
  have e2 := sm_ready (T := T) sh hC.1 hE hC.2.1 hI h1 hs (hC.2.2.1 o i (by omega) i3) hP
  rw [hr] at e2
  have e2' : f_sm_inputToTake 10 (nI o) (nI i) ((I, T) : Mem) = some (nI f, ((I, T) : Mem)) := e2
  obtain ⟨b1, b2, b3⟩ := ready_some hE hI h1 hs hr
  have p3 := hE.p3 (o := o - 1) (by omega)
  have vc : vC E (o - 1) f i := ⟨by omega, b1, by rw [show o - 1 + 1 = o by omega]; exact hs.2⟩
  have hl45 := lin45 hE vc
  have e3 := sm_chAt (T := T) sh hC.1 hE vc
  have hok := (hI.1 _ _ _ vc).1
  have c4 := hE.2.2.2.2.2.2.2.2.2.1.2
  have kch := sh.ch hl45
  obtain ⟨-, -, t3, t4, t5⟩ := tb_pre hE hI h1 ho hs.2 b1 hq'
  obtain ⟨c, hc⟩ : ∃ c, c = lin (o - 1) f i := ⟨_, rfl⟩
  have hq := hq'
  rw [← hc] at e3 hl45 hok b3 kch hq
  have kch1 := kch.1
  have kin1 := ((sh.op (o := o) (by omega)).inn i3).1
  have ksm := sh.1
  have hq4 := hok.1
  obtain ⟨C1, F1⟩ := CT_P (o := o) (i := i) (m := (f + 1) % eP E (o - 1)) hE hC (by omega) i3
  obtain ⟨I1, hI1⟩ : ∃ I1, I1 = u2 I (20 + 33 * o + 18 + 5 * i) 3 (nI ((f + 1) % eP E (o - 1))) := ⟨_, rfl⟩
  rw [← hI1] at C1 F1
  have hch1 := C1.2.1 c hl45
  simp only [gs_P] at hch1
  have e4 := ch_startsB (T := T) kch hch1 (by omega) hq (fun l hb => by cases hb)
  obtain ⟨I2, e5, f2, r2⟩ := ch_popB (T := T) kch hch1 (by omega) hq
  obtain ⟨C2, F2⟩ := CT_ch hE C1 hl45 f2 r2
  have hm := (hI.2.2.1 o i hs).2.2 h1
  have h28 : (2 : Nat) ^ eP E (o - 1) ≤ 2 ^ 3 := Nat.pow_le_pow_right (by omega) p3
  have hst := (C2.2.2.1 o i (by omega) i3).2.2.1
  simp only [gs_C, gs_P] at hst
  have ms := mask_set ⟨dS D (spt o i), by omega⟩ ⟨f, by omega⟩
  have ma := mask_all ⟨eP E (o - 1), by omega⟩
  have hor8 := (mask_or ⟨dS D (spt o i), by omega⟩ ⟨f, by omega⟩ ⟨f, by omega⟩ b2).2.1
  simp only at ms ma hor8
  obtain ⟨m, hm'⟩ : ∃ m, m = (dS D (spt o i) ||| 1 <<< f) := ⟨_, rfl⟩
  rw [← hm'] at ms hor8
  obtain ⟨C3, F3⟩ := CT_S (o := o) (i := i) (m := m) hE C2 (by omega) i3
  have hpre : f_sm_takeItem 10 (nI o) (nI i) (20 + 33 * o) (20 + 33 * o + 18 + 5 * i) ((I, T) : Mem) = (if nI m = nI (2 ^ eP E (o - 1) - 1) then cV (f_sm_saveInstance 10 (nI i) (20 + 33 * o) (20 + 33 * o + 18 + 5 * i) ((u2 I2 (20 + 33 * o + 18 + 5 * i) 2 (nI m), T) : Mem)) fun M32 => some (nI 1, M32) else some (nI 1, ((u2 I2 (20 + 33 * o + 18 + 5 * i) 2 (nI m), T) : Mem))) := by
    have hp0 := hE.p1 (o := o - 1) (by omega)
    unfold f_sm_takeItem
    simp (disch := omega) only [↓gI_t, ↓pI_t, ↓ck_t, ↓cI_s, ↓cR_s, ↓cV_s, ↓onR_s, ksm, e1, e2', e3, i_lits, pk_sub, nI_ltI, n_ltT, ↓reduceIte, nI_add, rmI_t, ← hI1, kch1, kin1, e4, Option.isNone_none, b01, nI_eq, n_eqF, e5, hst, ms, u2_at, ma]
  rw [hpre]
  have hmlt : 2 ^ eP E (o - 1) - 1 < 2 ^ 31 := by omega
  by_cases hful : m = 2 ^ eP E (o - 1) - 1
  · have hful' : (dS D (spt o i) ||| 1 <<< f) = 2 ^ eP E (o - 1) - 1 := by rw [← hm']; exact hful
    obtain ⟨I4, e6, C4, F4⟩ := saveInst_code (T := T) sh hE C3 hs h1 (fun hz => by
      have hw : dW D < eP E (eN E + 1) := sunk_lt hE hI hs hz t3
      exact hw)
    have heq : (if o = eN E + 1 then zsW (saves E (zsS (zsS (zsC (zsP D (upw (dP D) (spt o i) ((f + 1) % eP E (o - 1)))) (upw (dC (zsP D (upw (dP D) (spt o i) ((f + 1) % eP E (o - 1))))) c (q, (dC D c).2))) (upw (dS (zsC (zsP D (upw (dP D) (spt o i) ((f + 1) % eP E (o - 1)))) (upw (dC (zsP D (upw (dP D) (spt o i) ((f + 1) % eP E (o - 1))))) c (q, (dC D c).2)))) (spt o i) m)) (upw (dS (zsS (zsC (zsP D (upw (dP D) (spt o i) ((f + 1) % eP E (o - 1)))) (upw (dC (zsP D (upw (dP D) (spt o i) ((f + 1) % eP E (o - 1))))) c (q, (dC D c).2))) (upw (dS (zsC (zsP D (upw (dP D) (spt o i) ((f + 1) % eP E (o - 1)))) (upw (dC (zsP D (upw (dP D) (spt o i) ((f + 1) % eP E (o - 1))))) c (q, (dC D c).2)))) (spt o i) m))) (spt o i) 0)) o i) (dW (zsS (zsC (zsP D (upw (dP D) (spt o i) ((f + 1) % eP E (o - 1)))) (upw (dC (zsP D (upw (dP D) (spt o i) ((f + 1) % eP E (o - 1))))) c (q, (dC D c).2))) (upw (dS (zsC (zsP D (upw (dP D) (spt o i) ((f + 1) % eP E (o - 1)))) (upw (dC (zsP D (upw (dP D) (spt o i) ((f + 1) % eP E (o - 1))))) c (q, (dC D c).2)))) (spt o i) m)) + 1) else zsH (saves E (zsS (zsS (zsC (zsP D (upw (dP D) (spt o i) ((f + 1) % eP E (o - 1)))) (upw (dC (zsP D (upw (dP D) (spt o i) ((f + 1) % eP E (o - 1))))) c (q, (dC D c).2))) (upw (dS (zsC (zsP D (upw (dP D) (spt o i) ((f + 1) % eP E (o - 1)))) (upw (dC (zsP D (upw (dP D) (spt o i) ((f + 1) % eP E (o - 1))))) c (q, (dC D c).2)))) (spt o i) m)) (upw (dS (zsS (zsC (zsP D (upw (dP D) (spt o i) ((f + 1) % eP E (o - 1)))) (upw (dC (zsP D (upw (dP D) (spt o i) ((f + 1) % eP E (o - 1))))) c (q, (dC D c).2))) (upw (dS (zsC (zsP D (upw (dP D) (spt o i) ((f + 1) % eP E (o - 1)))) (upw (dC (zsP D (upw (dP D) (spt o i) ((f + 1) % eP E (o - 1))))) c (q, (dC D c).2)))) (spt o i) m))) (spt o i) 0)) o i) (upw (dH (zsS (zsC (zsP D (upw (dP D) (spt o i) ((f + 1) % eP E (o - 1)))) (upw (dC (zsP D (upw (dP D) (spt o i) ((f + 1) % eP E (o - 1))))) c (q, (dC D c).2))) (upw (dS (zsC (zsP D (upw (dP D) (spt o i) ((f + 1) % eP E (o - 1)))) (upw (dC (zsP D (upw (dP D) (spt o i) ((f + 1) % eP E (o - 1))))) c (q, (dC D c).2)))) (spt o i) m))) (spt o i) true)) = mvTB E D o i f q := by
      by_cases hz : o = eN E + 1
      · rw [if_pos hz]
        refine Dy_ext ?_ ?_ ?_ ?_ ?_ ?_ ?_ ?_ ?_ ?_ ?_ ?_ ?_ ?_ ?_ ?_ ?_ ?_ ?_ <;> simp only [tbs_f E D o i f q hful' hz, saves, gs_W, gs_D, gs_R, gs_G, gs_S, gs_C, gs_P, upw_upw, hc]
      · rw [if_neg hz]
        refine Dy_ext ?_ ?_ ?_ ?_ ?_ ?_ ?_ ?_ ?_ ?_ ?_ ?_ ?_ ?_ ?_ ?_ ?_ ?_ ?_ <;> simp only [tbf_f E D o i f q hful' hz, saves, gs_H, gs_D, gs_R, gs_G, gs_S, gs_C, gs_P, upw_upw, hc]
    rw [heq] at C4
    refine ⟨_, I4, ?_, C4, FX_tr (FX_tr (FX_tr F1 F2) F3) F4⟩
    rw [if_pos (by rw [hful]), e6]
    rfl
  · have hful' : ¬ (dS D (spt o i) ||| 1 <<< f) = 2 ^ eP E (o - 1) - 1 := by rw [← hm']; exact hful
    have heq : zsS (zsC (zsP D (upw (dP D) (spt o i) ((f + 1) % eP E (o - 1)))) (upw (dC (zsP D (upw (dP D) (spt o i) ((f + 1) % eP E (o - 1))))) c (q, (dC D c).2))) (upw (dS (zsC (zsP D (upw (dP D) (spt o i) ((f + 1) % eP E (o - 1)))) (upw (dC (zsP D (upw (dP D) (spt o i) ((f + 1) % eP E (o - 1))))) c (q, (dC D c).2)))) (spt o i) m) = mvTB E D o i f q := by
      refine Dy_ext ?_ ?_ ?_ ?_ ?_ ?_ ?_ ?_ ?_ ?_ ?_ ?_ ?_ ?_ ?_ ?_ ?_ ?_ ?_ <;> simp only [tbn_f E D o i f q hful', gs_S, gs_C, gs_P, hc, hm']
    rw [heq] at C3
    refine ⟨g, u2 I2 (20 + 33 * o + 18 + 5 * i) 2 (nI m), ?_, C3, FX_tr (FX_tr F1 F2) F3⟩
    rw [if_neg (fun w => hful ((nI_eq (by omega) hmlt).mp w))]
/-- what is taken before the record is handled -/
def preTR (E : Env) (D : Dy) (o i f : Nat) (l : List Rec) (q : List Bt) : Dy := zsX (zsC (zsP D (upw (dP D) (spt o i) ((f + 1) % eP E (o - 1)))) (upw (dC D) (lin (o - 1) f i) (if l = [] then q else some l :: q, (dC D (lin (o - 1) f i)).2))) (upw (dX D) o (dX D o + nI 1))
theorem preTR_f (E : Env) (D : Dy) (o i f : Nat) (l : List Rec) (q : List Bt) : dC (preTR E D o i f l q) = upw (dC D) (lin (o - 1) f i) (if l = [] then q else some l :: q, (dC D (lin (o - 1) f i)).2) ∧ dL (preTR E D o i f l q) = dL D ∧ dH (preTR E D o i f l q) = dH D ∧ dS (preTR E D o i f l q) = dS D ∧ dP (preTR E D o i f l q) = upw (dP D) (spt o i) ((f + 1) % eP E (o - 1)) ∧ dN (preTR E D o i f l q) = dN D ∧ dD (preTR E D o i f l q) = dD D ∧ dR (preTR E D o i f l q) = dR D ∧ dK (preTR E D o i f l q) = dK D ∧ dG (preTR E D o i f l q) = dG D ∧ dX (preTR E D o i f l q) = upw (dX D) o (dX D o + nI 1) ∧ dY (preTR E D o i f l q) = dY D ∧ dB (preTR E D o i f l q) = dB D ∧ dI (preTR E D o i f l q) = dI D ∧ dT (preTR E D o i f l q) = dT D ∧ dM (preTR E D o i f l q) = dM D ∧ dU (preTR E D o i f l q) = dU D ∧ dO (preTR E D o i f l q) = dO D ∧ dW (preTR E D o i f l q) = dW D := ⟨rfl, rfl, rfl, rfl, rfl, rfl, rfl, rfl, rfl, rfl, rfl, rfl, rfl, rfl, rfl, rfl, rfl, rfl, rfl⟩
theorem takeItem_pre (sh : shSm T) (hE : okE E) (hI : Inv E D) (hC : CT E D g Q I T) (hs : vS E o i) (h1 : 1 ≤ o) (hP : dP D (spt o i) < 3) {f : Nat} (hr : ready E D o i = some f) {r : Rec} {l : List Rec} {q : List Bt} (hq' : (dC D (lin (o - 1) f i)).1 = some (r :: l) :: q) (hB : r.2.2 ≤ eT E) (hT : eT E < 2 ^ 30) : ∃ I3, f_sm_takeItem 10 (nI o) (nI i) (20 + 33 * o) (20 + 33 * o + 18 + 5 * i) ((I, T) : Mem) = (if nI (eK E o) = nI 8 then cV (f_la_note 18 (nI (eT E - r.2.2)) ((I3, T) : Mem)) fun M27 => f_sm_takeItem_175 (20 + 33 * o) (20 + 33 * o + 18 + 5 * i) (kv r.1) r.2.1 (nI r.2.2) M27 else f_sm_takeItem_175 (20 + 33 * o) (20 + 33 * o + 18 + 5 * i) (kv r.1) r.2.1 (nI r.2.2) ((I3, T) : Mem)) ∧ CT E (preTR E D o i f l q) g Q I3 T ∧ FX T I I3 := by
  have n4 := hE.1
  have ho := hs.1
  have i3 := hs.i3 hE
  have e1 := sm_sizeOf (T := T) (o := o - 1) sh hC.1 n4 (by omega)
  rw [if_pos (by omega)] at e1
  have e2 := sm_ready (T := T) sh hC.1 hE hC.2.1 hI h1 hs (hC.2.2.1 o i (by omega) i3) hP
  rw [hr] at e2
  have e2' : f_sm_inputToTake 10 (nI o) (nI i) ((I, T) : Mem) = some (nI f, ((I, T) : Mem)) := e2
  obtain ⟨b1, b2, b3⟩ := ready_some hE hI h1 hs hr
  have p3 := hE.p3 (o := o - 1) (by omega)
  have vc : vC E (o - 1) f i := ⟨by omega, b1, by rw [show o - 1 + 1 = o by omega]; exact hs.2⟩
  have hl45 := lin45 hE vc
  have e3 := sm_chAt (T := T) sh hC.1 hE vc
  have hok := (hI.1 _ _ _ vc).1
  have c4 := hE.2.2.2.2.2.2.2.2.2.1.2
  have s4 := hE.2.2.2.2.2.2.2.1.2
  have kch := sh.ch hl45
  obtain ⟨c, hc⟩ : ∃ c, c = lin (o - 1) f i := ⟨_, rfl⟩
  have hq := hq'
  unfold preTR
  rw [← hc] at e3 hl45 hok b3 kch hq ⊢
  have kch1 := kch.1
  have kchR := kch.2.2.1
  have krc := kch.2.2.2.2.2.2.2.2
  have krc1 := krc.1
  have kop1 := (sh.op (o := o) (by omega)).1
  have kin1 := ((sh.op (o := o) (by omega)).inn i3).1
  have ksm := sh.1
  have hq4 := hok.1
  have hll := (hok.2.2 (r :: l) (by rw [hq]; exact List.mem_cons_self)).2
  simp only [List.length_cons] at hll
  obtain ⟨C1, F1⟩ := CT_P (o := o) (i := i) (m := (f + 1) % eP E (o - 1)) hE hC (by omega) i3
  obtain ⟨I1, hI1⟩ : ∃ I1, I1 = u2 I (20 + 33 * o + 18 + 5 * i) 3 (nI ((f + 1) % eP E (o - 1))) := ⟨_, rfl⟩
  rw [← hI1] at C1 F1
  have hch1 := C1.2.1 c hl45
  simp only [gs_P] at hch1
  have e4 := ch_startsB (T := T) kch hch1 (by omega) hq (fun l' hb => by cases hb; simp; omega)
  have hfl : flatH (dC D c) = r :: (l ++ flatQ q ++ (dC D c).2.1) := by simp [flatH, hq, flatQ]
  have hrng := hch1.1
  rw [hfl] at hrng
  obtain ⟨a1, a2, a3⟩ := rc_at0 (T := T) m3_32 krc hrng
  obtain ⟨I2, e5, f2, r2⟩ := ch_popR (T := T) kch hch1 (by omega) hq (by omega)
  obtain ⟨C2, F2⟩ := CT_ch hE C1 hl45 f2 r2
  obtain ⟨C3, F3⟩ := CT_X (o := o) (v := dX D o + nI 1) hE C2 (by omega)
  have hx := (C2.2.2.2.2.2.2.1 o (by omega)).1
  simp only [gs_C, gs_P] at hx
  have hk := (C3.1.2.2.2 o ho).1
  have htk := C3.2.2.2.2.2.2.2.1.2.1
  have hp0 := hE.p1 (o := o - 1) (by omega)
  obtain ⟨I3, hI3⟩ : ∃ I3, I3 = u2 I2 (20 + 33 * o) 10 (dX D o + nI 1) := ⟨_, rfl⟩
  rw [← hI3] at C3 F3 hk htk
  have k18 := sh.2.2.2.2.2.1
  have k185 := sh.2.2.2.2.2.2.2.2.2.2.2.1
  refine ⟨I3, ?_, ?_, FX_tr (FX_tr F1 F2) F3⟩
  · unfold f_sm_takeItem
    simp (disch := omega) only [↓gI_t, ↓pI_t, ↓ck_t, ↓cI_s, ↓cR_s, ↓cV_s, ↓onR_s, gA_t, ksm, e1, e2', e3, i_lits, pk_sub, nI_ltI, n_ltT, ↓reduceIte, nI_add, rmI_t, ← hI1, kch1, kin1, e4, Option.isNone_some, b01, Bool.false_eq_true, nI_eq, n_eqT, kchR, krc1, a1, a2, a3, e5, kop1, hx, ← hI3, hk, k18, k185, htk]
  · simp only [gs_C, gs_P] at C3
    exact C3
theorem takeItem_rec (sh : shSm T) (hn : 550 ≤ tN T) (hE : okE E) (hI : Inv E D) (hC : CT E D g Q I T) (hs : vS E o i) (h1 : 1 ≤ o) (hA : ∀ o, 1 ≤ o → o ≤ eN E → eK E o = 3 → ∃ c, c ≤ 3 ∧ eA E o = nI c) (hP : dP D (spt o i) < 3) (hl : dL D (spt o i) = []) {f : Nat} (hr : ready E D o i = some f) {r : Rec} {l : List Rec} {q : List Bt} (hq' : (dC D (lin (o - 1) f i)).1 = some (r :: l) :: q) (hB : r.2.2 ≤ eT E ∧ eT E - r.2.2 < 40000) (hT : eT E < 2 ^ 30) : ∃ I' T', f_sm_takeItem 10 (nI o) (nI i) (20 + 33 * o) (20 + 33 * o + 18 + 5 * i) ((I, T) : Mem) = some (nI 1, ((I', T') : Mem)) ∧ CT E (mvTR E D o i f r l q) g Q I' T' ∧ FX T I I' ∧ Ext T T' := by
  obtain ⟨I3, e, C3, F3⟩ := takeItem_pre (T := T) sh hE hI hC hs h1 hP hr hq' hB.1 hT
  have k185 := sh.2.2.2.2.2.2.2.2.2.2.2.1
  rw [e]
  by_cases hz : o = eN E + 1
  · have hk8 : eK E o = 8 := by rw [hz]; exact hE.2.2.2.2.1
    rw [if_pos (by rw [hk8])]
    obtain ⟨I4, T', e6, L4, X4, f4⟩ := la_note (T := T) k185 hn C3.2.2.2.2.2.2.2.2.2.1 hB.2
    obtain ⟨C4, F4⟩ := CT_lat hE C3 hn L4 f4 (by simp only [gs_U, gs_M, gs_T, and_self])
    obtain ⟨I5, e7, C5, F5⟩ := take175 (T := T') (X4.sm hn sh) hE C4 hs h1 hA r (by simp only [gs_U, gs_M, gs_T, preTR_f]; exact hl)
    refine ⟨I5, T', ?_, ?_, FX_ext (FX_tr F3 F4) X4 F5, X4⟩
    · rw [e6]
      exact e7
    · have heq : ∀ D1 : Dy, D1 = zsU (zsM (zsT (preTR E D o i f l q) (upw (dT (preTR E D o i f l q)) (eT E - r.2.2) (dT (preTR E D o i f l q) (eT E - r.2.2) + 1))) (dM (preTR E D o i f l q) + 1)) (dU (preTR E D o i f l q) + nI (eT E - r.2.2)) → zsY (zsL (zsK D1 (upw (dK D1) o (fun k => if k = r.1 then (proc (eK E o) (eA E o) (eB E o) (dK D1 o r.1) r.1 r.2.1).2 else dK D1 o k))) (upw (dL D1) (spt o i) ((proc (eK E o) (eA E o) (eB E o) (dK D1 o r.1) r.1 r.2.1).1.map fun x => (x.1, x.2, r.2.2)))) (upw (dY D1) o (dY D1 o + nI (proc (eK E o) (eA E o) (eB E o) (dK D1 o r.1) r.1 r.2.1).1.length)) = mvTR E D o i f r l q := fun D1 hD1 => by
        refine Dy_ext ?_ ?_ ?_ ?_ ?_ ?_ ?_ ?_ ?_ ?_ ?_ ?_ ?_ ?_ ?_ ?_ ?_ ?_ ?_ <;> simp only [tr_f, hD1, gs_Y, gs_L, gs_K, gs_U, gs_M, gs_T, preTR_f, if_pos hz, nI_lit1]
      rw [← heq _ rfl]
      exact C5
  · have hk8 := hE.2.2.2.2.2.1 o h1 (by have := hs.1; omega)
    rw [if_neg (fun w => by have := (nI_eq (by omega) (by omega)).mp w; omega)]
    obtain ⟨I5, e7, C5, F5⟩ := take175 (T := T) sh hE C3 hs h1 hA r (by simp only [preTR_f]; exact hl)
    refine ⟨I5, T, e7, ?_, FX_tr F3 F5, Ext_rf⟩
    have heq : ∀ D1 : Dy, D1 = preTR E D o i f l q → zsY (zsL (zsK D1 (upw (dK D1) o (fun k => if k = r.1 then (proc (eK E o) (eA E o) (eB E o) (dK D1 o r.1) r.1 r.2.1).2 else dK D1 o k))) (upw (dL D1) (spt o i) ((proc (eK E o) (eA E o) (eB E o) (dK D1 o r.1) r.1 r.2.1).1.map fun x => (x.1, x.2, r.2.2)))) (upw (dY D1) o (dY D1 o + nI (proc (eK E o) (eA E o) (eB E o) (dK D1 o r.1) r.1 r.2.1).1.length)) = mvTR E D o i f r l q := fun D1 hD1 => by
      refine Dy_ext ?_ ?_ ?_ ?_ ?_ ?_ ?_ ?_ ?_ ?_ ?_ ?_ ?_ ?_ ?_ ?_ ?_ ?_ ?_ <;> simp only [tr_f, hD1, gs_Y, gs_L, gs_K, preTR_f, if_neg hz, nI_lit1]
    rw [← heq _ rfl]
    exact C5
end
