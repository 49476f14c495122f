/-! CALLS: tick -/
section
variable {T T' : Tl} {I I' : Iw} {E E' : Env} {D D' : Dy} {Q Q' : Slow} {S : Sy} {g g' : Nat → Kst} {o i j s c r tk k : Nat}
theorem flw_cg (h1 : eN E' = eN E) (h2 : eK E' = eK E) (h3 : eA E' = eA E) (h4 : eB E' = eB E) : ∀ (d o : Nat) (k : Fin 16) (v : Int32) (f : Nat → Kst), flw E' d o k v f = flw E d o k v f
  | 0, o, k, v, f => rfl
  | d + 1, o, k, v, f => by
    unfold flw
    rw [h1, h2, h3, h4]
    have e : (fun (g : Nat → Kst) (x : Fin 16 × Int32) => flw E' d (o + 1) x.1 x.2 g) = fun g x => flw E d (o + 1) x.1 x.2 g := by
      funext g x
      exact flw_cg h1 h2 h3 h4 d (o + 1) x.1 x.2 g
    rw [e]
theorem plnK_cg (h1 : eN E' = eN E) (h2 : eK E' = eK E) (h3 : eA E' = eA E) (h4 : eB E' = eB E) (h5 : eI E' = eI E) (m : Nat) : plnK E' m = plnK E m := by
  unfold plnK
  rw [h5]
  have e : (fun (f : Nat → Kst) (x : Fin 16 × Int32) => flw E' 8 1 x.1 x.2 f) = fun f x => flw E 8 1 x.1 x.2 f := by
    funext f x
    exact flw_cg h1 h2 h3 h4 8 1 x.1 x.2 f
  rw [e]
theorem PlC_cg (h : PlC I E) (hn : eN E ≤ 4) (h1 : eN E' = eN E) (h2 : eK E' = eK E) (h3 : eA E' = eA E) (h4 : eB E' = eB E) (h5 : eI E' = eI E) (f0 : I' 488 = I 488) (f : ∀ o, o < 6 → ∀ a, 20 + 33 * o + 11 ≤ a → a < 20 + 33 * o + 14 → I' a = I a) : PlC I' E' := by
  obtain ⟨m, q1, q2, q3, q4⟩ := h
  refine ⟨m, by rw [h5]; exact q1, by rw [f0]; exact q2, fun o ho => ?_, fun o ho => ?_⟩
  · rw [plnK_cg h1 h2 h3 h4 h5]
    rw [h1] at ho
    exact KyC_cg (q3 o ho) (fun a g1 g2 => f o (by omega) a g1 (by omega))
  · obtain ⟨x, hx⟩ := q4 o ho
    exact ⟨x, KyC_cg hx (fun a g1 g2 => f o ho a g1 (by omega))⟩
theorem Ext_shX (e : Ext T T') (hn : 550 ≤ tN T) (h : shX T) : shX T' := by
  have k0 : ∀ a, a < 550 → tK T' a = tK T a := fun a ha => (e.1 a (by omega)).1
  have l0 : ∀ a, a < 550 → tL T' a = tL T a := fun a ha => (e.1 a (by omega)).2
  have r0 : ∀ a j, a < 550 → a ≠ 18 → tR T' a j = tR T a j := fun a j ha h8 => e.2.1 a j ha (fun z => h8 z.1)
  unfold shX at h ⊢
  rw [k0 0 (by omega), k0 1 (by omega), k0 3 (by omega), k0 5 (by omega), k0 488 (by omega), k0 489 (by omega), k0 490 (by omega), k0 491 (by omega), l0 490 (by omega), l0 491 (by omega)]
  rw [r0 0 _ (by omega) (by omega), r0 0 _ (by omega) (by omega), r0 0 _ (by omega) (by omega), r0 0 _ (by omega) (by omega), r0 0 _ (by omega) (by omega), r0 0 _ (by omega) (by omega)]
  rw [r0 5 _ (by omega) (by omega), r0 5 _ (by omega) (by omega), r0 5 _ (by omega) (by omega), r0 5 _ (by omega) (by omega), r0 5 _ (by omega) (by omega)]
  rw [r0 488 _ (by omega) (by omega), r0 489 _ (by omega) (by omega), r0 489 _ (by omega) (by omega), r0 489 _ (by omega) (by omega)]
  refine ⟨h.1, h.2.1, h.2.2.1, h.2.2.2.1, h.2.2.2.2.1, h.2.2.2.2.2.1, h.2.2.2.2.2.2.1, h.2.2.2.2.2.2.2.1, h.2.2.2.2.2.2.2.2.1, h.2.2.2.2.2.2.2.2.2.1, h.2.2.2.2.2.2.2.2.2.2.1, h.2.2.2.2.2.2.2.2.2.2.2.1, h.2.2.2.2.2.2.2.2.2.2.2.2.1, h.2.2.2.2.2.2.2.2.2.2.2.2.2.1, h.2.2.2.2.2.2.2.2.2.2.2.2.2.2.1, fun a h1 h2 => ?_, h.2.2.2.2.2.2.2.2.2.2.2.2.2.2.2.2⟩
  rw [k0 a (by omega), l0 a (by omega)]
  exact h.2.2.2.2.2.2.2.2.2.2.2.2.2.2.2.1 a h1 h2
theorem SC_tick (h : SC S I T) (hn : eN (yE S) ≤ 4) (hC : CT E' D' g' Q' I' T') (f : FX T I I') (e : Ext T T') (h1 : eN E' = eN (yE S)) (h2 : eK E' = eK (yE S)) (h3 : eA E' = eA (yE S)) (h4 : eB E' = eB (yE S)) (h5 : eI E' = eI (yE S)) : SC (E', D', Q', S.2.2.2) I' T' ∧ KP I T I' T' := by
  obtain ⟨q1, q2, q3, q4, q5, ⟨g, q6⟩, q7, q8, q9, q10, q11⟩ := h
  obtain ⟨lv, l1, l2, l3, l4, -⟩ := q6.2.2.2.2.2.2.2.2.2.1
  have f0 : ∀ a, a < tN T → (a < 10 ∨ 488 ≤ a ∨ (20 ≤ a ∧ a < 218 ∧ 11 ≤ (a - 20) % 33 ∧ (a - 20) % 33 < 18)) → a ≠ lv → I' a = I a := fun a g1 g2 g3 => f a g1 g2 (fun z => g3 (by rw [l1] at z; cases z; rfl))
  have sb : ∀ p l, (p = 1 ∨ p = 3) → SbC I T p l → SbC I' T' p l := fun p l hp hs => by
    obtain ⟨tv, t1, t2, t3, t4, t5, t6, t7, t8, t9, t10⟩ := hs
    have hlt : tv ≠ lv := fun z => by rw [z, l2] at t2; omega
    refine ⟨tv, by rw [e.2.1 p 0 (by omega) (by omega)]; exact t1, by rw [(e.1 tv t4).1]; exact t2, t3, Nat.lt_of_lt_of_le t4 e.2.2.1, by rw [(e.1 tv t4).2]; exact t5, by rw [(e.1 tv t4).2]; exact t6, by rw [(e.1 tv t4).2]; exact t7, ?_, ?_, fun j hj => ?_⟩
    · rw [f0 p (by omega) (by omega) (by omega)]; exact t8
    · rw [f0 p (by omega) (by omega) (by omega)]; exact t9
    · rw [f0 tv t4 (by omega) hlt]; exact t10 j hj
  refine ⟨⟨e.sm q3 q1, Ext_shX e q3 q2, Nat.le_trans q3 e.2.2.1, e.2.2.2.2.2.1 q4, fun tv wv t1 t2 => ?_, ⟨g', hC⟩, sb 1 _ (by omega) q7, sb 3 _ (by omega) q8, ?_, ?_, fun o ho => ?_⟩, fun a g1 g2 => f0 a (by omega) (by omega) (by omega), e.2.2.2.2.1 492 (by omega), fun h => Ext_shM e q3 h, e.2.2.2.1⟩
  · rw [e.2.1 1 0 (by omega) (by omega)] at t1
    rw [e.2.1 3 0 (by omega) (by omega)] at t2
    exact q5 tv wv t1 t2
  · show ExC I' (yX S)
    unfold ExC
    rw [f0 489 (by omega) (by omega) (by omega), f0 490 (by omega) (by omega) (by omega), f0 491 (by omega) (by omega) (by omega)]
    exact q9
  · exact PlC_cg q10 hn h1 h2 h3 h4 h5 (f0 488 (by omega) (by omega) (by omega)) (fun o ho a g1 g2 => f0 a (by omega) (by omega) (by omega))
  · obtain ⟨l, hl⟩ := q11 o ho
    exact ⟨l, Rng_cg hl (fun a g1 g2 => f0 a (by omega) (by omega) (by omega))⟩
theorem WD_mono {m : Nat} (h : WD E D Q k) (hm : k ≤ m) : WD E D Q m := by
  obtain ⟨a1, a2, a3, a4, a5, a6, a7, a8, ⟨tb, gc, b1, b2, b3, b4⟩, a10, a11, a12⟩ := h
  exact ⟨a1, a2, a3, a4, a5, a6, a7, a8, ⟨tb, gc, b1, b2, b3, by omega⟩, by omega, by omega, by omega⟩
theorem PD_mono {m : Nat} (h : PD S k) (hm : k ≤ m) : PD S m := ⟨WD_mono h.1 hm, h.2⟩
theorem tick1_E : eN (yE (tick1 S)) = eN (yE S) ∧ eK (yE (tick1 S)) = eK (yE S) ∧ eA (yE (tick1 S)) = eA (yE S) ∧ eB (yE (tick1 S)) = eB (yE S) ∧ eI (yE (tick1 S)) = eI (yE S) ∧ eT (yE (tick1 S)) = eT (yE S) + 1 ∧ (tick1 S).2.2.2 = S.2.2.2 := by
  unfold tick1
  split <;> exact ⟨rfl, rfl, rfl, rfl, rfl, rfl, rfl⟩
theorem tick1_S : tick1 S = (yE (tick1 S), yD (tick1 S), yQ (tick1 S), S.2.2.2) := by
  unfold tick1
  split <;> rfl
theorem PD_tick (h : PD S k) (hk : k ≤ 512) (hq : ¬ quietD (yE S) (yD S)) (hT : eT (yE S) + 1 ≤ 200 * k) : PD (tick1 S) k := by
  obtain ⟨e1, e2, e3, e4, e5, e6, e7⟩ := tick1_E (S := S)
  have hw := WD_tick (S := S) (tw := S.2.2.2) rfl h.1 hk hq hT
  refine ⟨hw, ?_, ?_⟩
  · have := h.2.1
    unfold okB at this ⊢
    rw [e1, e3, e4]
    exact this
  · have := h.2.2
    unfold yT yW yX at this ⊢
    rw [e7]
    exact this
def tkN : Nat → Nat → Sy → Nat × Sy
  | 0, m, S => (m, S)
  | d + 1, m, S => if qtB (yE S) (yD S) then (m, S) else tkN d (m + 1) (tick1 S)
theorem PD_tkN (hk : k ≤ 512) : ∀ (d m : Nat) (S : Sy), PD S k → eT (yE S) + d ≤ 200 * k → PD (tkN d m S).2 k
  | 0, m, S, h, _ => h
  | d + 1, m, S, h, hT => by
    unfold tkN
    split
    · exact h
    · rename_i hq
      have e6 := tick1_E (S := S)
      exact PD_tkN hk d (m + 1) (tick1 S) (PD_tick h hk (fun z => hq ((qtB_iff h.1.1 h.1.2.2.1).mpr z)) (by omega)) (by omega)
theorem xtick_loop (hk : k ≤ 512) (N : Nat) (hN : N ≤ 200) : ∀ (d n m : Nat) (S : Sy) (I : Iw) (T : Tl), m + d = N → d < n → SC S I T → PD S k → eT (yE S) + d ≤ 200 * k → ∃ I' T', f_x_tick_17 n 0 (nI N) (nI m) ((I, T) : Mem) = some (nI (tkN d m S).1, ((I', T') : Mem)) ∧ SC (tkN d m S).2 I' T' ∧ KP I T I' T'
  | d, 0, m, S, I, T, _, hn, _, _, _ => by omega
  | 0, n + 1, m, S, I, T, hm, hn, hC, h, hT => by
    refine ⟨I, T, ?_, hC, KP_rf⟩
    unfold f_x_tick_17 tkN
    rw [if_pos ((nI_leI (by omega) (by omega)).mpr (by omega)), show N = m by omega]
  | d + 1, n + 1, m, S, I, T, hm, hn, hC, h, hT => by
    have hC' := hC
    obtain ⟨sh, shx, h550, -, -, ⟨g, hCT⟩, -⟩ := hC
    have h' := h
    obtain ⟨⟨hE, -, hI, -, -, -, -, -, -, -, -, hq⟩, -⟩ := h
    have e := sm_quiet (T := T) sh hE hI hCT (by omega)
    obtain ⟨x0, -, -, -, x3, -⟩ := shx
    have ksm := sh.1
    unfold f_x_tick_17 tkN
    rw [if_neg (fun w => by have := (nI_leI (by omega) (by omega)).mp w; omega), gA_t x0, x3, onR_s, ck_t ksm, e, cI_x, b01_cs]
    cases hb : qtB (yE S) (yD S) with
    | true => exact ⟨I, T, rfl, hC', KP_rf⟩
    | false =>
      have hnq : ¬ quietD (yE S) (yD S) := fun z => by
        have := (qtB_iff hE hI).mpr z
        rw [hb] at this
        cases this
      obtain ⟨g1, I1, T1, e1, C1, F1, X1⟩ := tick_code (T := T) (tw := S.2.2.2) sh h550 h'.1 hk (by omega) hCT
      have hS : ((yE S, yD S, yQ S, S.2.2.2) : Sy) = S := rfl
      rw [hS] at C1
      obtain ⟨t1, t2, t3, t4, t5, t6, t7⟩ := tick1_E (S := S)
      obtain ⟨C2, K2⟩ := SC_tick hC' hE.1 C1 F1 X1 t1 t2 t3 t4 t5
      rw [← tick1_S] at C2
      obtain ⟨I2, T2, e2, C3, K3⟩ := xtick_loop hk N hN d n (m + 1) (tick1 S) I1 T1 (by omega) (by omega) C2 (PD_tick h' hk hnq (by omega)) (by omega)
      refine ⟨I2, T2, ?_, C3, KP_tr K2 K3⟩
      simp only [Bool.false_eq_true, ↓reduceIte]
      rw [gA_t x0, x3, onR_s, ck_t ksm, e1, cV_x, show nI m + (1 : Int32) = nI (m + 1) from nI_1 m]
      exact e2
theorem x_range {a b : Nat} {p : Int32} (hb : b < 2 ^ 31) (h1 : ¬ p < nI a) (h2 : p ≤ nI b) (ha : a < 2 ^ 31) : ∃ N, a ≤ N ∧ N ≤ b ∧ p = nI N := by
  have t1 : (nI a).toInt = a := nI_toInt ha
  have t2 : (nI b).toInt = b := nI_toInt hb
  rw [Int32.lt_iff_toInt_lt, t1] at h1
  rw [Int32.le_iff_toInt_le, t2] at h2
  refine ⟨p.toInt.toNat, by omega, by omega, Int32.toInt_inj.mp ?_⟩
  rw [nI_toInt (by omega)]
  omega
theorem x_rangeN {a b N : Nat} {p : Int32} (hp : p = nI N) (hN : N < 2 ^ 31) (ha : a < 2 ^ 31) (hb : b < 2 ^ 31) : (p < nI a ↔ N < a) ∧ (p ≤ nI b ↔ N ≤ b) ∧ (nI b < p ↔ b < N) ∧ (nI a ≤ p ↔ a ≤ N) := by
  subst hp
  exact ⟨nI_ltI hN ha, nI_leI hN hb, nI_ltI hb hN, nI_leI ha hN⟩
def inI (p a b : Int32) : Bool := !decide (p < a) && !decide (b < p)
theorem m_isIn (p a b : Int32) (M : Mem) : f_m_isIn p a b M = some (nI (b01 (inI p a b)), M) := by
  unfold f_m_isIn inI
  by_cases h1 : p < a
  · rw [if_pos h1, decide_eq_true h1]; rfl
  · rw [if_neg h1, decide_eq_false h1]
    by_cases h2 : b < p
    · rw [if_pos h2, decide_eq_true h2]; rfl
    · rw [if_neg h2, decide_eq_false h2]; rfl
/-- the answer of tick, the state after it -/
def yTick (S : Sy) (p : Int32) : Int32 × Sy := if inI p 1 200 then (nI (tkN p.toNatClampNeg 0 S).1, (tkN p.toNatClampNeg 0 S).2) else (-1000000002, S)
theorem PD_yTick (h : PD S k) (hk : k + 1 ≤ 512) (p : Int32) : PD (yTick S p).2 (k + 1) := by
  unfold yTick
  split
  · rename_i hp
    have h1 : ¬ p < nI 1 := by
      unfold inI at hp
      simp only [Bool.and_eq_true, Bool.not_eq_true', decide_eq_false_iff_not] at hp
      exact hp.1
    have h2 : p ≤ nI 200 := by
      unfold inI at hp
      simp only [Bool.and_eq_true, Bool.not_eq_true', decide_eq_false_iff_not] at hp
      exact Int32.not_lt.mp hp.2
    obtain ⟨N, a1, a2, rfl⟩ := x_range (by omega) h1 h2 (by omega)
    rw [nI_clamp (by omega)]
    have hT := h.1.2.2.2.2.2.2.2.2.2.1
    exact PD_tkN (k := k + 1) hk N 0 S (PD_mono h (by omega)) (by omega)
  · exact PD_mono h (by omega)
theorem x_tick (hC : SC S I T) (h : PD S k) (hk : k + 1 ≤ 512) (p : Int32) : ∃ I' T', f_x_tick 0 p ((I, T) : Mem) = some ((yTick S p).1, ((I', T') : Mem)) ∧ SC (yTick S p).2 I' T' ∧ KP I T I' T' := by
  unfold f_x_tick yTick inI
  by_cases h1 : p < 1
  · rw [if_pos h1, decide_eq_true h1]
    exact ⟨I, T, rfl, hC, KP_rf⟩
  · rw [if_neg h1, decide_eq_false h1]
    by_cases h2 : p ≤ 200
    · obtain ⟨N, a1, a2, rfl⟩ := x_range (a := 1) (b := 200) (by omega) h1 h2 (by omega)
      have h3 : ¬ (200 : Int32) < nI N := Int32.not_lt.mpr h2
      rw [if_pos h2, decide_eq_false h3, nI_clamp (by omega)]
      have hT := h.1.2.2.2.2.2.2.2.2.2.1
      obtain ⟨I1, T1, e, C, K⟩ := xtick_loop (k := k + 1) hk N (by omega) N FU 0 S I T (by omega) (by unfold FU; omega) hC (PD_mono h (by omega)) (by omega)
      exact ⟨I1, T1, e, C, K⟩
    · have h3 : (200 : Int32) < p := Int32.not_le.mp h2
      rw [if_neg h2, decide_eq_true h3]
      exact ⟨I, T, rfl, hC, KP_rf⟩
-- the reference
theorem SM_tick (h : SM S I T) (hM : MR E' D' Q' (eQ E') (eT E') I' T') (f : FM I I') : SM (E', D', Q', S.2.2.2) I' T' := by
  obtain ⟨h1, h2, h3, h4⟩ := h
  refine ⟨hM, ?_, ?_, ?_⟩
  · show TxM I' (yT S)
    unfold TxM
    rw [f.2 1 (by omega), f.1 493 (by omega) (by omega)]
    exact h2
  · show WrM I' (yW S)
    unfold WrM
    rw [f.2 80 (by omega), f.1 549 (by omega) (by omega)]
    exact h3
  · show ExM I' (yX S)
    unfold ExM
    rw [f.2 77 (by omega), f.1 547 (by omega) (by omega), f.1 548 (by omega) (by omega)]
    exact h4
theorem mtick_loop (hk : k ≤ 512) (N : Nat) (hN : N ≤ 200) : ∀ (d n m : Nat) (S : Sy) (I : Iw) (T : Tl), m + d = N → d < n → shM T → SM S I T → PD S k → eT (yE S) + d ≤ 200 * k → ∃ I' T', f_m_tick_16 n 492 (nI N) (nI m) ((I, T) : Mem) = some (nI (tkN d m S).1, ((I', T') : Mem)) ∧ SM (tkN d m S).2 I' T' ∧ MF I T I' T'
  | d, 0, m, S, I, T, _, hn, _, _, _, _ => by omega
  | 0, n + 1, m, S, I, T, hm, hn, sh, hC, h, hT => by
    refine ⟨I, T, ?_, hC, MF_rf⟩
    unfold f_m_tick_16 tkN
    rw [if_pos ((nI_leI (by omega) (by omega)).mpr (by omega))]
  | d + 1, n + 1, m, S, I, T, hm, hn, sh, hC, h, hT => by
    have h' := h
    obtain ⟨⟨hE, -, hI, -, -, -, -, -, -, -, -, hq⟩, -⟩ := h
    have e := m_quiet (T := T) sh hE hI hC.1 (by omega)
    unfold f_m_tick_16 tkN
    rw [if_neg (fun w => by have := (nI_leI (by omega) (by omega)).mp w; omega), sh.ck, e, cI_x, b01_cs]
    cases hb : qtB (yE S) (yD S) with
    | true => exact ⟨I, T, rfl, hC, MF_rf⟩
    | false =>
      have hnq : ¬ quietD (yE S) (yD S) := fun z => by
        have := (qtB_iff hE hI).mpr z
        rw [hb] at this
        cases this
      obtain ⟨I1, T1, e1, C1, F1, J1⟩ := mtick_code (T := T) (tw := S.2.2.2) sh h'.1 hk (by omega) hC.1
      have hS : ((yE S, yD S, yQ S, S.2.2.2) : Sy) = S := rfl
      rw [hS] at C1
      obtain ⟨t1, t2, t3, t4, t5, t6, t7⟩ := tick1_E (S := S)
      have C2 := SM_tick hC C1 F1
      rw [← tick1_S] at C2
      obtain ⟨I2, T2, e2, C3, K3⟩ := mtick_loop hk N hN d n (m + 1) (tick1 S) I1 T1 (by omega) (by omega) (J1.sh sh) C2 (PD_tick h' hk hnq (by omega)) (by omega)
      refine ⟨I2, T2, ?_, C3, MF_tr (MF_FM F1 (fun _ _ _ => trivial) J1) K3⟩
      simp only [Bool.false_eq_true, ↓reduceIte]
      rw [sh.ck, e1, cV_x, show nI m + (1 : Int32) = nI (m + 1) from nI_1 m]
      exact e2
theorem m_tick (sh : shM T) (hC : SM S I T) (h : PD S k) (hk : k + 1 ≤ 512) (p : Int32) : ∃ I' T', f_m_tick 492 p ((I, T) : Mem) = some ((yTick S p).1, ((I', T') : Mem)) ∧ SM (yTick S p).2 I' T' ∧ MF I T I' T' := by
  unfold f_m_tick yTick
  rw [m_isIn, cI_x, b01_cs]
  cases hp : inI p 1 200 with
  | false => exact ⟨I, T, rfl, hC, MF_rf⟩
  | true =>
    unfold inI at hp
    simp only [Bool.and_eq_true, Bool.not_eq_true', decide_eq_false_iff_not] at hp
    obtain ⟨N, a1, a2, rfl⟩ := x_range (a := 1) (b := 200) (by omega) hp.1 (Int32.not_lt.mp hp.2) (by omega)
    rw [nI_clamp (by omega)]
    have hT := h.1.2.2.2.2.2.2.2.2.2.1
    obtain ⟨I1, T1, e, C, K⟩ := mtick_loop (k := k + 1) hk N (by omega) N FU 0 S I T (by omega) (by unfold FU; omega) sh hC (PD_mono h (by omega)) (by omega)
    simp only [↓reduceIte]
    refine ⟨I1, T1, ?_, C, K⟩
    rw [show (0 : Int32) = nI 0 from rfl]
    exact e
end
