/-! CALLS: clear -/
section
variable {T T' : Tl} {I I' : Iw} {E E' : Env} {D D' : Dy} {Q Q' : Slow} {S : Sy} {g g' : Nat → Kst} {o i j s c r tk k m : Nat}
theorem PD_beg (hE : okE (yE S)) (hA : okA (yE S)) (hB : okB (yE S)) (hR : ((yT S).length ≤ 60 ∧ chk (yT S)) ∧ ((yW S).length ≤ 80 ∧ chk (yW S)) ∧ (yX S).length ≤ 8) : PD (begS S) k := by
  refine ⟨?_, hB, hR⟩
  exact WD_fresh (E := esQ (esT (yE S) 0) 0) (D := brkD (zerD (yD S)) (slow0 (yQ S))) (Q := slow0 (yQ S)) hE hA (fun _ => rfl) (fun _ => rfl) (fun _ => rfl) (fun _ => rfl) (fun _ => (by omega : (0 : Nat) < 3)) (fun _ => rfl) rfl rfl (Nat.zero_le _) ⟨fun _ _ _ => rfl, fun o k x _ e => by cases e⟩ ⟨fun _ _ _ => rfl, fun o k x _ e => by cases e⟩ (fun _ _ => rfl) (fun _ => Nat.zero_le _) (fun _ => Nat.zero_le _) (Nat.zero_le _) (sumN_z (fun x _ => rfl)) (fun _ _ => rfl) (Nat.zero_le _) (fun _ => rfl) (Nat.zero_le _) (Nat.zero_le _)
theorem CT_pln (hE : okE E) (h : CT E D g Q I T) (f : ∀ a, a ≠ 488 → (a < 20 ∨ 218 ≤ a ∨ (a - 20) % 33 < 11 ∨ 18 ≤ (a - 20) % 33) → I' a = I a) : CT E D g Q I' T := by
  obtain ⟨h1, h2, h3, h4, h5, h6, h7, h8, h9, h10, h11⟩ := h
  have n4 := hE.1
  have fi : ∀ o i, o < 6 → i < 3 → I' (20 + 33 * o + 18 + 5 * i) = I (20 + 33 * o + 18 + 5 * i) := fun o i ho hi => by
    have := adr_in ho hi (20 + 33 * o + 18 + 5 * i) (by omega) (by omega)
    exact f _ (by omega) (by omega)
  exact ⟨CfC_cg h1 n4 (by rw [f 10 (by omega) (by omega)]) (f 11 (by omega) (by omega)) (fun o ho j _ _ => by rw [f _ (by omega) (by omega)]), ChsC_cg h2 (fun a _ _ => f a (by omega) (by omega)), InsC_cg h3 (fun a _ _ _ => f a (by omega) (by omega)), KsC_cg h4 (fun a _ _ _ _ => f a (by omega) (by omega)), PeC_cg h5 (fun a _ _ _ _ => f a (by omega) (by omega)), PgC_cg hE h6 (fun o i ho hi => by rw [fi o i ho hi]), StC_cg h7 (fun o ho j _ _ => by rw [f _ (by omega) (by omega)]), ScC_cg h8 (f 10 (by omega) (by omega)), NpC_cg h9 (fun a _ _ => f a (by omega) (by omega)), LaC_cg h10 (f 18 (by omega) (by omega)) (fun a ha => f a (by omega) (by omega)), VsC_cg h11 (fun a _ _ _ _ => f a (by omega) (by omega)) (fun o i ho hi => by rw [fi o i ho hi]) (by rw [f 10 (by omega) (by omega)]; exact ⟨rfl, rfl, rfl, rfl, rfl⟩)⟩
theorem CT_inp {l : List (Fin 16 × Int32)} (hE : okE (esI E l)) (h : CT E D g Q I T) (f : Frm 12 4 I I') (hn : NpC I' (esI E l)) : CT (esI E l) D g Q I' T := by
  obtain ⟨h1, h2, h3, h4, h5, h6, h7, h8, h9, h10, h11⟩ := h
  have n4 := hE.1
  exact ⟨CfC_cg (E := esI E l) h1 n4 (by rw [f 10 (by omega)]) (f 11 (by omega)) (fun o ho j _ _ => by rw [f _ (by omega)]), ChsC_cg h2 (fun a _ _ => f a (by omega)), InsC_cg h3 (fun a _ _ _ => f a (by omega)), KsC_cg h4 (fun a _ _ _ _ => f a (by omega)), PeC_cg h5 (fun a _ _ _ _ => f a (by omega)), PgC_cg (E := esI E l) hE h6 (fun o i ho hi => by rw [f _ (by omega)]), StC_cg h7 (fun o ho j _ _ => by rw [f _ (by omega)]), ScC_cg (E := esI E l) h8 (f 10 (by omega)), hn, LaC_cg h10 (f 18 (by omega)) (fun a ha => f a (by omega)), VsC_cg h11 (fun a _ _ _ _ => f a (by omega)) (fun o i ho hi => by rw [f _ (by omega)]) (by rw [f 10 (by omega)]; exact ⟨rfl, rfl, rfl, rfl, rfl⟩)⟩
theorem plf_loop (sh : shSm T) (shx : shX T) (n4 : eN E ≤ 4) : ∀ (d n o : Nat) (I : Iw), o + d = eN E + 2 → d < n → CfC I E → ∃ I', f_pl_forget_7 n 488 (nI o) ((I, T) : Mem) = some ((I', T) : Mem) ∧ (∀ a, (∀ x, o ≤ x → x ≤ eN E + 1 → a < 20 + 33 * x + 11 ∨ 20 + 33 * x + 14 ≤ a) → I' a = I a) ∧ ∀ x, o ≤ x → x ≤ eN E + 1 → KyC I' (20 + 33 * x + 11) (fun _ => none)
  | d, 0, o, I, _, hn, _ => by omega
  | 0, n + 1, o, I, ho, hn, hc => by
    have k7 := shx.2.2.2.2.2.2.2.2.2.2.2.2.2.2.2.2.1
    have kr7 := shx.2.2.2.2.2.2.2.2.2.2.2.2.2.2.2.2.2.1
    have k10 := sh.1
    have hst := hc.1
    refine ⟨I, ?_, fun _ _ => rfl, fun x h1 h2 => by omega⟩
    unfold f_pl_forget_7
    simp (disch := omega) only [↓gI_t, ↓pI_t, ↓pZ_t, ↓ck_t, ↓aN_t, ↓cI_x, ↓cV_x, ↓cR_x, ↓onR_s, ↓onR_n, ↓nmI_t, ↓reduceIte, gA_t, aI_t, sI_t, aA_t, aB_t, sB_t, rmI_t, dvI_t, nI_add, pk_mul, pk_sub, nI_leI, nI_ltI, nI_eq, n_leT, n_leF, n_ltT, n_ltF, n_eqT, n_eqF, u2_ne, u2_at, u2_nj, r2_ne, r2_at, ↓i_neg1, m1_ne, m1_en, m1_lt, m1_le, m1_nlt, m1_nle, i_lits, true_and, and_true, k7, kr7, k10, hst]
  | d + 1, n + 1, o, I, ho, hn, hc => by
    have k7 := shx.2.2.2.2.2.2.2.2.2.2.2.2.2.2.2.2.1
    have kr7 := shx.2.2.2.2.2.2.2.2.2.2.2.2.2.2.2.2.2.1
    have k10 := sh.1
    have hst := hc.1
    have e := sm_opAt (T := T) (o := o) sh hc n4 (by omega)
    rw [if_pos (by omega)] at e
    have kop := sh.op (o := o) (by omega)
    have k1 := kop.1
    have kr4 := kop.2.2.2.2.2.2.2.2.1
    have ky := kop.2.2.2.2.2.2.2.2.2.2.2.2.2.1
    have ky1 := ky.1
    obtain ⟨I1, e1, f1, c1⟩ := ky_wipe (I := I) (T := T) ky
    obtain ⟨I2, e2, f2, c2⟩ := plf_loop sh shx n4 d n (o + 1) I1 (by omega) (by omega) (CfC_cg hc n4 (by rw [f1 10 (by omega)]) (f1 11 (by omega)) (fun o' _ j _ _ => by rw [f1 _ (by omega)]))
    refine ⟨I2, ?_, fun a ha => ?_, fun x h1 h2 => ?_⟩
    · unfold f_pl_forget_7 f_pl_forget_40
      simp (disch := omega) only [↓gI_t, ↓pI_t, ↓pZ_t, ↓ck_t, ↓aN_t, ↓cI_x, ↓cV_x, ↓cR_x, ↓onR_s, ↓onR_n, ↓nmI_t, ↓reduceIte, gA_t, aI_t, sI_t, aA_t, aB_t, sB_t, rmI_t, dvI_t, nI_add, pk_mul, pk_sub, nI_leI, nI_ltI, nI_eq, n_leT, n_leF, n_ltT, n_ltF, n_eqT, n_eqF, u2_ne, u2_at, u2_nj, r2_ne, r2_at, ↓i_neg1, m1_ne, m1_en, m1_lt, m1_le, m1_nlt, m1_nle, i_lits, true_and, and_true, k7, kr7, k10, hst, e, k1, kr4, ky1, e1, e2]
    · have h0 := ha o (by omega) (by omega)
      rw [f2 a (fun x h1 h2 => ha x (by omega) h2), f1 a (by omega)]
    · by_cases hz : x = o
      · subst hz
        exact KyC_cg c1 (fun a g1 g2 => f2 a (fun y h1 h2 => by omega))
      · exact c2 x (by omega) h2
theorem pl_forget (sh : shSm T) (shx : shX T) (n4 : eN E ≤ 4) (hc : CfC I E) : ∃ I', f_pl_forget 488 ((I, T) : Mem) = some ((I', T) : Mem) ∧ (∀ a, a ≠ 488 → (∀ x, x ≤ eN E + 1 → a < 20 + 33 * x + 11 ∨ 20 + 33 * x + 14 ≤ a) → I' a = I a) ∧ I' 488 1 = nI 0 ∧ (∀ j, j ≠ 1 → I' 488 j = I 488 j) ∧ ∀ x, x ≤ eN E + 1 → KyC I' (20 + 33 * x + 11) (fun _ => none) := by
  have k7 := shx.2.2.2.2.2.2.2.2.2.2.2.2.2.2.2.2.1
  obtain ⟨I1, e1, f1, c1⟩ := plf_loop (T := T) (I := u2 I 488 1 (nI 0)) sh shx n4 (eN E + 2) FU 0 (by omega) (by unfold FU; omega) (CfC_cg hc n4 (by rw [u2_ne (by omega)]) (u2_ne (by omega)) (fun o' ho j _ _ => by rw [u2_ne (by omega)]))
  have f488 : I1 488 = u2 I 488 1 (nI 0) 488 := f1 488 (fun x h1 h2 => by omega)
  refine ⟨I1, ?_, fun a h1 h2 => ?_, ?_, fun j hj => ?_, fun x hx => c1 x (by omega) hx⟩
  · unfold f_pl_forget
    simp (disch := omega) only [↓gI_t, ↓pI_t, ↓pZ_t, ↓ck_t, ↓aN_t, ↓cI_x, ↓cV_x, ↓cR_x, ↓onR_s, ↓onR_n, ↓nmI_t, ↓reduceIte, gA_t, aI_t, sI_t, aA_t, aB_t, sB_t, rmI_t, dvI_t, nI_add, pk_mul, pk_sub, nI_leI, nI_ltI, nI_eq, n_leT, n_leF, n_ltT, n_ltF, n_eqT, n_eqF, u2_ne, u2_at, u2_nj, r2_ne, r2_at, ↓i_neg1, m1_ne, m1_en, m1_lt, m1_le, m1_nlt, m1_nle, i_lits, true_and, and_true, k7, e1]
  · rw [f1 a (fun x h1 h2' => h2 x h2'), u2_ne h1]
  · rw [f488]; exact u2_at rfl rfl
  · rw [f488]; exact u2_nj rfl hj
theorem PlC_0 (h4 : ∀ o, o < 6 → ∃ f, KyC I (20 + 33 * o + 11) f) (n4 : eN E ≤ 4) (f : ∀ a, a ≠ 488 → (∀ x, x ≤ eN E + 1 → a < 20 + 33 * x + 11 ∨ 20 + 33 * x + 14 ≤ a) → I' a = I a) (h1 : I' 488 1 = nI 0) (hk : ∀ x, x ≤ eN E + 1 → KyC I' (20 + 33 * x + 11) (fun _ => none)) : PlC I' E := by
  refine ⟨0, Nat.zero_le _, h1, fun o ho => hk o ho, fun o ho => ?_⟩
  by_cases hz : o ≤ eN E + 1
  · exact ⟨_, hk o hz⟩
  · obtain ⟨x, hx⟩ := h4 o ho
    exact ⟨x, KyC_cg hx (fun a g1 g2 => f a (by omega) (fun y hy => by omega))⟩
theorem SbC_cg {p : Nat} {l : List Int32} (h : SbC I T p l) (f : I' p = I p) (f2 : ∀ tv, tR T p 0 = some tv → I' tv = I tv) : SbC I' T p l := by
  obtain ⟨tv, t1, t2, t3, t4, t5, t6, t7, t8, t9, t10⟩ := h
  exact ⟨tv, t1, t2, t3, t4, t5, t6, t7, by rw [f]; exact t8, by rw [f]; exact t9, fun j hj => by rw [f2 tv t1]; exact t10 j hj⟩
theorem SC_new {l' : List Int32} (h : SC S I T) (hC : CT E' D' g' Q' I' T) (f : ∀ a, a < tN T → (a = 3 ∨ a = 4 ∨ 489 ≤ a ∨ (20 ≤ a ∧ a < 218 ∧ 14 ≤ (a - 20) % 33 ∧ (a - 20) % 33 < 18)) → tR T 18 0 ≠ some a → tR T 1 0 ≠ some a → I' a = I a) (hT : SbC I' T 1 l') (hp : PlC I' E') : SC (E', D', Q', l', yW S, yX S) I' T ∧ KP I T I' T := by
  obtain ⟨q1, q2, q3, q4, q5, ⟨g, q6⟩, q7, q8, q9, q10, q11⟩ := h
  obtain ⟨lv, l1, l2, l3, l4, -⟩ := q6.2.2.2.2.2.2.2.2.2.1
  obtain ⟨tv, t1, t2, t3, t4, -⟩ := q7
  have f0 : ∀ a, a < tN T → (a = 3 ∨ a = 4 ∨ 489 ≤ a ∨ (20 ≤ a ∧ a < 218 ∧ 14 ≤ (a - 20) % 33 ∧ (a - 20) % 33 < 18)) → a ≠ lv → a ≠ tv → I' a = I a := fun a g1 g2 g3 g4 => f a g1 g2 (fun z => g3 (by rw [l1] at z; cases z; rfl)) (fun z => g4 (by rw [t1] at z; cases z; rfl))
  refine ⟨⟨q1, q2, q3, q4, q5, ⟨g', hC⟩, hT, ?_, ?_, hp, fun o ho => ?_⟩, KP_row (fun a g1 g2 => f0 a (by omega) (by omega) (by omega) (by omega))⟩
  · refine SbC_cg q8 (f0 3 (by omega) (by omega) (by omega) (by omega)) (fun wv hw => ?_)
    obtain ⟨wv', w1, w2, w3, w4, -⟩ := q8
    have e : wv' = wv := by rw [w1] at hw; cases hw; rfl
    subst e
    exact f0 wv' w4 (by omega) (fun z => by rw [z, l2] at w2; omega) (fun z => q5 tv wv' t1 w1 z.symm)
  · show ExC I' (yX S)
    unfold ExC
    rw [f0 489 (by omega) (by omega) (by omega) (by omega), f0 490 (by omega) (by omega) (by omega) (by omega), f0 491 (by omega) (by omega) (by omega) (by omega)]
    exact q9
  · obtain ⟨l, hl⟩ := q11 o ho
    exact ⟨l, Rng_cg hl (fun a g1 g2 => f0 a (by omega) (by omega) (by omega) (by omega))⟩
def yClear (S : Sy) : Sy := begS (esI (yE S) [], S.2)
theorem okE_I {l : List (Fin 16 × Int32)} (h : okE E) (hl : l.length ≤ 60) : okE (esI E l) := by
  obtain ⟨h1, h2, h3, h4, h5, h6, h7, h8, h9, h10, h11, h12⟩ := h
  exact ⟨h1, h2, h3, h4, h5, h6, h7, h8, h9, h10, h11, hl⟩
theorem PD_clear (h : PD S k) : PD (yClear S) (k + 1) := PD_beg (S := (esI (yE S) [], S.2)) (okE_I h.1.1 (Nat.zero_le _)) h.1.2.1 h.2.1 h.2.2
theorem x_clear (hC : SC S I T) (h : PD S k) : ∃ I' T', f_x_clear 0 ((I, T) : Mem) = some (nI (eI (yE S)).length, ((I', T') : Mem)) ∧ SC (yClear S) I' T' ∧ KP I T I' T' := by
  have hC' := hC
  obtain ⟨sh, shx, h550, -, -, ⟨g, hCT⟩, hT, -, -, hP, -⟩ := hC
  have hE := h.1.1
  have n4 := hE.1
  have hE2 : okE (esI (yE S) []) := okE_I hE (Nat.zero_le _)
  have hnp := hCT.2.2.2.2.2.2.2.2.1
  have krc := sh.2.2.2.2.2.2.2.2.2.2.2.2.1
  have krc1 := krc.1
  have ksm := sh.1
  have k12 := sh.2.2.1
  have hsz := hnp.2.2.1
  rw [List.length_map] at hsz
  obtain ⟨x0, -, -, -, x3, x4, -⟩ := id shx
  have k7 := shx.2.2.2.2.2.2.2.2.2.2.2.2.2.2.2.2.1
  obtain ⟨I1, e1, f1, r1⟩ := rc_wipe (T := T) m3_64 krc hnp.2.1
  have C1 := CT_inp (l := []) hE2 hCT (Frm_up f1 (by omega) (by omega)) r1
  obtain ⟨I2, e2, C2, F2⟩ := sm_begin sh h550 hE2 C1
  obtain ⟨I3, e3, f3, b3, b4, c3⟩ := pl_forget sh shx n4 C2.1
  have C3 := CT_pln (E := esQ (esT (esI (yE S) []) 0) 0) (I' := I3) hE2 C2 (fun a g1 g2 => f3 a g1 (fun x hx => by
    have hx4 : x ≤ eN (yE S) + 1 := hx
    omega))
  have fall : ∀ a, a < tN T → (a < 10 ∨ 489 ≤ a ∨ (20 ≤ a ∧ a < 218 ∧ 14 ≤ (a - 20) % 33 ∧ (a - 20) % 33 < 18)) → tR T 18 0 ≠ some a → I3 a = I a := fun a g1 g2 g3 => by
    rw [f3 a (by omega) (fun x hx => by omega), F2 a g1 (by omega) g3, f1 a (by omega)]
  have hlv : ∀ a, tK T a = 101 → tR T 18 0 ≠ some a := fun a ha z => by
    obtain ⟨lv, l1, l2, -⟩ := hCT.2.2.2.2.2.2.2.2.2.1
    rw [l1] at z
    cases z
    omega
  have h18 : ∀ a, (a < 19 ∨ (19 < a ∧ a < 550)) → tR T 18 0 ≠ some a := fun a ha z => by
    obtain ⟨lv, l1, l2, l3, -⟩ := hCT.2.2.2.2.2.2.2.2.2.1
    rw [l1] at z
    cases z
    omega
  have hPl : PlC I3 (esQ (esT (esI (yE S) []) 0) 0) := PlC_0 (I := I2) (fun o ho => by
    obtain ⟨-, -, -, -, p4⟩ := hP
    obtain ⟨x, hx⟩ := p4 o ho
    exact ⟨x, KyC_cg hx (fun a g1 g2 => by rw [F2 a (by omega) (by omega) (h18 a (by omega)), f1 a (by omega)])⟩) n4 f3 b3 c3
  obtain ⟨C4, K4⟩ := SC_new (l' := yT S) hC' C3 (fun a g1 g2 g3 _ => fall a g1 (by omega) g3) (SbC_cg hT (fall 1 (by omega) (by omega) (h18 1 (by omega))) (fun tv htv => by
    obtain ⟨tv', t1, t2, t3, t4, -⟩ := hT
    rw [t1] at htv
    cases htv
    exact fall _ t4 (by omega) (hlv _ t2))) hPl
  refine ⟨I3, T, ?_, C4, K4⟩
  unfold f_x_clear
  rw [gA_t x0, x3, onR_s, gA_t ksm, k12, onR_s, gI_t krc1, hsz, gA_t x0, x3, onR_s, gA_t ksm, k12, onR_s, ck_t krc1, e1, cV_x, gA_t x0, x3, onR_s, ck_t ksm, e2, cV_x, gA_t x0, x4, onR_s, ck_t k7, e3, cV_x]
theorem SM_new (h : SM S I T) (hM : MR E' D' Q' (eQ E') (eT E') I' T') (f1 : ∀ j, (j = 1 ∨ j = 80 ∨ j = 77) → I' 492 j = I 492 j) (f2 : ∀ a, (a = 493 ∨ (547 ≤ a ∧ a < 550)) → I' a = I a) : SM (E', D', Q', S.2.2.2) I' T' := by
  obtain ⟨h1, h2, h3, h4⟩ := h
  refine ⟨hM, ?_, ?_, ?_⟩
  · show TxM I' (yT S)
    unfold TxM
    rw [f1 1 (by omega), f2 493 (by omega)]
    exact h2
  · show WrM I' (yW S)
    unfold WrM
    rw [f1 80 (by omega), f2 549 (by omega)]
    exact h3
  · show ExM I' (yX S)
    unfold ExM
    rw [f1 77 (by omega), f2 547 (by omega), f2 548 (by omega)]
    exact h4
theorem MR_13 (h : MR E D Q r tk I T) (f : ∀ a, a ≠ 492 → a ≠ 498 → a ≠ 499 → I' a = I a) (fj : ∀ j, j ≠ 13 → I' 492 j = I 492 j) {l : List (Fin 16 × Int32)} (h13 : I' 492 13 = nI l.length) (hl : ∀ j (h : j < l.length), I' 498 j = kv l[j].1 ∧ I' 499 j = l[j].2) : MR (esI E l) D Q r tk I' T := by
  obtain ⟨⟨c1, c2, c3, c4, c5, c6, c7, c8⟩, q2, q3, q4, q5, q6, q7, q8, q9⟩ := h
  refine ⟨⟨(fj _ (by omega)).trans c1, (fj _ (by omega)).trans c2, (fj _ (by omega)).trans c3, (fj _ (by omega)).trans c4, (fj _ (by omega)).trans c5, h13, ?_, hl⟩, ChsM_cg q2 (fun a _ _ => f a (by omega) (by omega) (by omega)), InsM_cg q3 (fun a _ => f a (by omega) (by omega) (by omega)), KyM_cg q4 (f _ (by omega) (by omega) (by omega)) (f _ (by omega) (by omega) (by omega)) (f _ (by omega) (by omega) (by omega)), StM_cg q5 (fun a _ _ => f a (by omega) (by omega) (by omega)), ScM_cg (E := esI E l) q6 (fun j _ => fj j (by omega)), LaM_cg q7 (f _ (by omega) (by omega) (by omega)) (fj _ (by omega)), RuM_cg q8 (fun a _ => f a (by omega) (by omega) (by omega)), VsM_cg q9 (fun a _ => f a (by omega) (by omega) (by omega)) (fun j _ => fj j (by omega))⟩
  rw [f 494 (by omega) (by omega) (by omega), f 495 (by omega) (by omega) (by omega), f 496 (by omega) (by omega) (by omega), f 497 (by omega) (by omega) (by omega)]
  exact c7
theorem m_clear (sh : shM T) (hC : SM S I T) : ∃ I' T', f_m_clear 492 ((I, T) : Mem) = some (nI (eI (yE S)).length, ((I', T') : Mem)) ∧ SM (yClear S) I' T' ∧ MF I T I' T' := by
  have h13 := hC.1.1.2.2.2.2.2.1
  have hM := MR_13 (I' := u2 I 492 13 (nI 0)) (l := []) hC.1 (fun a h _ _ => u2_ne h) (fun j h => u2_nj rfl h) (u2_at rfl rfl) (fun j h => absurd h (Nat.not_lt_zero _))
  obtain ⟨I1, T1, e1, C1, F1, J1⟩ := m_begins sh hM
  refine ⟨I1, T1, ?_, SM_new (S := S) hC C1 (fun j hj => ?_) (fun a ha => ?_), fun a ha => ?_, J1⟩
  · unfold f_m_clear
    rw [sh.gI, sh.pI, sh.ck, h13, show (0 : Int32) = nI 0 from rfl, e1, cV_x]
  · rw [F1.2 j (by omega), u2_nj rfl (by omega)]
  · rw [F1.1 a (by omega) (by omega), u2_ne (by omega)]
  · rw [F1.1 a (by omega) (by omega), u2_ne (by omega)]
end
