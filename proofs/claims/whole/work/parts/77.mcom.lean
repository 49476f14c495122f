/-! THE REFERENCE: saves, completes, a barrier taken -/
/-- the first m places of each row copied from the row w says -/
def cpR (I : Iw) (w : Nat → Nat) (m : Nat) : Iw := fun a x => if x < m then I (w a) x else I a x
def w3 (a b c p q u : Nat) : Nat → Nat := fun y => if y = a then p else if y = b then q else if y = c then u else y
section
variable {T : Tl} {I I' : Iw} {E : Env} {D : Dy} {Q : Slow} {o i j s c r tk : Nat}
theorem cpR_0 {w : Nat → Nat} : cpR I w 0 = I := by
  funext a x
  unfold cpR
  rw [if_neg (by omega)]
theorem cpR_ne {w : Nat → Nat} {m a : Nat} (h : w a = a) : cpR I w m a = I a := by
  funext x
  unfold cpR
  rw [h]
  split <;> rfl
theorem cpR_at {w : Nat → Nat} {m a x : Nat} (h : x < m) : cpR I w m a x = I (w a) x := by
  unfold cpR
  rw [if_pos h]
theorem cpR_3 {a b c p q u m : Nat} (h : a ≠ b ∧ a ≠ c ∧ b ≠ c) : u2 (u2 (u2 (cpR I (w3 a b c p q u) m) a m (I p m)) b m (I q m)) c m (I u m) = cpR I (w3 a b c p q u) (m + 1) := by
  obtain ⟨h1, h2, h3⟩ := h
  funext y x
  unfold cpR
  by_cases hx : x = m
  · subst hx
    rw [if_pos (by omega)]
    by_cases e3 : y = c
    · rw [u2_at e3 rfl]; unfold w3; rw [if_neg (by omega), if_neg (by omega), if_pos e3]
    · rw [u2_ne e3]
      by_cases e2 : y = b
      · rw [u2_at e2 rfl]; unfold w3; rw [if_neg (by omega), if_pos e2]
      · rw [u2_ne e2]
        by_cases e1 : y = a
        · rw [u2_at e1 rfl]; unfold w3; rw [if_pos e1]
        · rw [u2_ne e1, if_neg (by omega)]; unfold w3; rw [if_neg e1, if_neg e2, if_neg e3]
  · have key : ∀ (X : Iw) (a : Nat) (v : Int32), u2 X a m v y x = X y x := fun X a v => by
      by_cases e : y = a
      · exact u2_nj e hx
      · rw [u2_ne e]
    rw [key, key, key]
    by_cases hy : x < m
    · rw [if_pos hy, if_pos (by omega)]
    · rw [if_neg hy, if_neg (by omega)]
theorem cpR_1 {a p m : Nat} : u2 (cpR I (w3 a a a p p p) m) a m (I p m) = cpR I (w3 a a a p p p) (m + 1) := by
  funext y x
  unfold cpR
  by_cases hx : x = m
  · subst hx
    rw [if_pos (by omega)]
    by_cases e1 : y = a
    · rw [u2_at e1 rfl]; unfold w3; rw [if_pos e1]
    · rw [u2_ne e1, if_neg (by omega)]; unfold w3; rw [if_neg e1, if_neg e1, if_neg e1]
  · have key : ∀ (X : Iw) (a : Nat) (v : Int32), u2 X a m v y x = X y x := fun X a v => by
      by_cases e : y = a
      · exact u2_nj e hx
      · rw [u2_ne e]
    rw [key]
    by_cases hy : x < m
    · rw [if_pos hy, if_pos (by omega)]
    · rw [if_neg hy, if_neg (by omega)]
theorem MR_saves (h : MR E D Q r tk I T) {f' : Nat → Kst} {g' : Nat → Nat} (f : ∀ a, a ≠ 505 → a ≠ 508 → a ≠ 511 → a ≠ 514 → I' a = I a) (h1 : KyM I' 505 508 511 f') (h2 : ∀ s, s < 18 → I' 514 s = nI (g' s)) : MR E (zsR (zsG D f') g') Q r tk I' T ∧ FM I I' := by
  obtain ⟨q1, q2, q3, q4, q5, q6, q7, q8, q9⟩ := h
  have f0 : ∀ a, a ≠ 505 ∧ a ≠ 508 ∧ a ≠ 511 ∧ a ≠ 514 → I' a = I a := fun a g => f a g.1 g.2.1 g.2.2.1 g.2.2.2
  have fm : FM I I' := ⟨fun a _ _ => f0 a (by omega), fun j _ => by rw [f0 492 (by omega)]⟩
  exact ⟨⟨CoM_cg q1 fm, ChsM_cg q2 (fun a _ _ => f0 a (by omega)), InsM_cg q3 (fun a _ => f0 a (by omega)), KyM_cg q4 (f0 _ (by omega)) (f0 _ (by omega)) (f0 _ (by omega)), StM_cg q5 (fun a _ _ => f0 a (by omega)), ScM_cg q6 (fun j _ => by rw [f0 492 (by omega)]), LaM_cg q7 (f0 _ (by omega)) (by rw [f0 492 (by omega)]), ⟨h1, h2⟩, VsM_cg q9 (fun a _ => f0 a (by omega)) (fun j _ => by rw [f0 492 (by omega)])⟩, fm⟩
theorem m_saves (sh : shM T) (hE : okE E) (hC : MR E D Q r tk I T) (hs : vS E o i) (h1 : zK E (dK D)) (h2 : zK E (dG D)) : ∃ I', f_m_saves 492 (nI o) (nI i) ((I, T) : Mem) = some ((I', T) : Mem) ∧ MR E (saves E D o i) Q r tk I' T ∧ FM I I' := by
  have n4 := hE.1
  have ho := hs.1
  have i3 := hs.i3 hE
  have s18 := spt18 hE hs
  have e0 := fun M => m_spot o i M
  have fin : ∀ (I1 : Iw), (∀ a, a ≠ 505 → a ≠ 508 → a ≠ 511 → I1 a = I a) → KyM I1 505 508 511 (upw (dG D) o (fun k => if home (eP E o) k = i then dK D o k else dG D o k)) → ∃ I', f_m_saves_85 492 (nI o) (nI i) ((I1, T) : Mem) = some ((I', T) : Mem) ∧ MR E (saves E D o i) Q r tk I' T ∧ FM I I' := fun I1 f0 hk => by
    have e1 := (hC.2.2.1 (spt o i) s18).2.2.2.2
    have e2 : I1 513 (spt o i) = nI (dN D (spt o i)) := by rw [f0 513 (by omega) (by omega) (by omega)]; exact e1
    obtain ⟨C1, F1⟩ := MR_saves (I' := u2 I1 514 (spt o i) (nI (dN D (spt o i)))) (f' := upw (dG D) o (fun k => if home (eP E o) k = i then dK D o k else dG D o k)) (g' := upw (dR D) (spt o i) (dN D (spt o i))) hC (fun a g1 g2 g3 g4 => by rw [u2_ne g4, f0 a g1 g2 g3]) (KyM_cg hk (u2_ne (by omega)) (u2_ne (by omega)) (u2_ne (by omega))) (fun s hs => by
      by_cases hz : s = spt o i
      · rw [hz, upw_eq, u2_at rfl rfl]
      · rw [upw_ne hz, u2_nj rfl hz, f0 514 (by omega) (by omega) (by omega)]
        exact hC.2.2.2.2.2.2.2.1.2 s hs)
    refine ⟨u2 I1 514 (spt o i) (nI (dN D (spt o i))), ?_, C1, F1⟩
    unfold f_m_saves_85
    simp (disch := omega) only [↓sh.gI, ↓sh.pI, ↓sh.ck, ↓cI_x, ↓cV_x, ↓nmI_t, ↓reduceIte, rmI_t, dvI_t, nI_add, pk_mul, pk_sub, nI_leI, nI_ltI, nI_eq, n_leT, n_leF, n_ltT, n_ltF, n_eqT, n_eqF, u2_ne, u2_at, u2_nj, ↓i_neg1, m1_ne, m1_en, m1_lt, m1_le, m1_nlt, m1_nle, i_lits, true_and, and_true, ↓sh.g33, ↓sh.g34, sh.a513, sh.a514, sh.s513, sh.s514, e0, e2]
  obtain ⟨c1, -, -, -⟩ := hC.1.op ho
  unfold f_m_saves
  cases hky : kyd (eK E o) with
  | true =>
    obtain ⟨I1, e1, f1, r1⟩ := saves_loop (T := T) (D := D) sh hE ho i3 hky 16 FU 0 I (dG D) (by omega) (by unfold FU; omega) hC.1 hC.2.2.2.1 hC.2.2.2.2.2.2.2.1.1
    have e4 : (fun x : Fin 16 => if 0 ≤ x.val ∧ home (eP E o) x = i then dK D o x else dG D o x) = fun x : Fin 16 => if home (eP E o) x = i then dK D o x else dG D o x := by
      funext x
      by_cases hx : home (eP E o) x = i
      · rw [if_pos ⟨Nat.zero_le _, hx⟩, if_pos hx]
      · rw [if_neg (fun z => hx z.2), if_neg hx]
    rw [e4] at r1
    obtain ⟨I2, e5, C2, F2⟩ := fin I1 f1 r1
    exact ⟨I2, e1.trans e5, C2, F2⟩
  | false =>
    have hG : upw (dG D) o (fun k => if home (eP E o) k = i then dK D o k else dG D o k) = dG D := by
      have : (fun k => if home (eP E o) k = i then dK D o k else dG D o k) = dG D o := by
        funext k
        rw [h1.1 o (Or.inr (Or.inr hky)) k, h2.1 o (Or.inr (Or.inr hky)) k]
        split <;> rfl
      rw [this, upw_self]
    obtain ⟨I2, e5, C2, F2⟩ := fin I (fun _ _ _ _ => rfl) (by rw [hG]; exact hC.2.2.2.2.2.2.2.1.1)
    refine ⟨I2, ?_, C2, F2⟩
    have e1 := m_isKeyed (T := T) sh (by omega) c1 (kind_le hE ho)
    rw [hky] at e1
    rw [show FU = FU - 1 + 1 by unfold FU; rfl]
    unfold f_m_saves_2
    simp (disch := omega) only [↓sh.gI, ↓sh.pI, ↓sh.ck, ↓cI_x, ↓cV_x, ↓nmI_t, ↓reduceIte, rmI_t, dvI_t, nI_add, pk_mul, pk_sub, nI_leI, nI_ltI, nI_eq, n_leT, n_leF, n_ltT, n_ltF, n_eqT, n_eqF, u2_ne, u2_at, u2_nj, ↓i_neg1, m1_ne, m1_en, m1_lt, m1_le, m1_nlt, m1_nle, i_lits, true_and, and_true, ↓sh.g24, ↓sh.g25, ↓sh.g27, ↓sh.g28, ↓sh.g30, ↓sh.g31, sh.a504, sh.a505, sh.a507, sh.a508, sh.a510, sh.a511, sh.s504, sh.s505, sh.s507, sh.s508, sh.s510, sh.s511, e1, b01, Bool.false_eq_true, e5]
-- completes
theorem com_loop2 (sh : shM T) : ∀ (d n k : Nat), k + d = 18 → d < n → f_m_completes_52 n 492 (nI k) ((cpR I (w3 515 515 515 514 514 514) k, T) : Mem) = some ((u2 (u2 (u2 (cpR I (w3 515 515 515 514 514 514) 18) 492 37 (I 492 36)) 492 16 (I 492 17)) 492 17 (nI 0), T) : Mem)
  | d, 0, k, _, hn => by omega
  | 0, n + 1, k, hk, hn => by
    have : k = 18 := by omega
    subst this
    have e1 : cpR I (w3 515 515 515 514 514 514) 18 492 = I 492 := cpR_ne rfl
    unfold f_m_completes_52
    simp (disch := omega) only [↓sh.gI, ↓sh.pI, ↓sh.ck, ↓cI_x, ↓cV_x, ↓nmI_t, ↓reduceIte, rmI_t, dvI_t, nI_add, pk_mul, pk_sub, nI_leI, nI_ltI, nI_eq, n_leT, n_leF, n_ltT, n_ltF, n_eqT, n_eqF, u2_ne, u2_at, u2_nj, ↓i_neg1, m1_ne, m1_en, m1_lt, m1_le, m1_nlt, m1_nle, i_lits, true_and, and_true, ↓sh.g34, ↓sh.g35, sh.a514, sh.a515, sh.s514, sh.s515, e1]
  | d + 1, n + 1, k, hk, hn => by
    have e := com_loop2 sh d n (k + 1) (by omega) (by omega)
    have e1 : cpR I (w3 515 515 515 514 514 514) k 514 = I 514 := cpR_ne rfl
    have e3 := cpR_1 (I := I) (a := 515) (p := 514) (m := k)
    unfold f_m_completes_52
    simp (disch := omega) only [↓sh.gI, ↓sh.pI, ↓sh.ck, ↓cI_x, ↓cV_x, ↓nmI_t, ↓reduceIte, rmI_t, dvI_t, nI_add, pk_mul, pk_sub, nI_leI, nI_ltI, nI_eq, n_leT, n_leF, n_ltT, n_ltF, n_eqT, n_eqF, u2_ne, u2_at, u2_nj, ↓i_neg1, m1_ne, m1_en, m1_lt, m1_le, m1_nlt, m1_nle, i_lits, true_and, and_true, ↓sh.g34, ↓sh.g35, sh.a514, sh.a515, sh.s514, sh.s515, e1, e3, e]
theorem com_loop1 (sh : shM T) {f : Nat → Kst} (hk0 : KyM I 505 508 511 f) : ∀ (d n k : Nat), k + d = 96 → d < n → f_m_completes_2 n 492 (nI k) ((cpR I (w3 506 509 512 505 508 511) k, T) : Mem) = f_m_completes_52 FU 492 (nI 0) ((cpR I (w3 506 509 512 505 508 511) 96, T) : Mem)
  | d, 0, k, _, hn => by omega
  | 0, n + 1, k, hk, hn => by
    have : k = 96 := by omega
    subst this
    unfold f_m_completes_2
    simp (disch := omega) only [↓sh.gI, ↓sh.pI, ↓sh.ck, ↓cI_x, ↓cV_x, ↓nmI_t, ↓reduceIte, rmI_t, dvI_t, nI_add, pk_mul, pk_sub, nI_leI, nI_ltI, nI_eq, n_leT, n_leF, n_ltT, n_ltF, n_eqT, n_eqF, u2_ne, u2_at, u2_nj, ↓i_neg1, m1_ne, m1_en, m1_lt, m1_le, m1_nlt, m1_nle, i_lits, true_and, and_true, ↓sh.g25, ↓sh.g26, ↓sh.g28, ↓sh.g29, ↓sh.g31, ↓sh.g32, sh.a505, sh.a506, sh.a508, sh.a509, sh.a511, sh.a512, sh.s505, sh.s506, sh.s508, sh.s509, sh.s511, sh.s512]
  | d + 1, n + 1, k, hk, hn => by
    have e := com_loop1 sh hk0 d n (k + 1) (by omega) (by omega)
    have e1 : cpR I (w3 506 509 512 505 508 511) k 505 = I 505 := cpR_ne rfl
    have e2 : cpR I (w3 506 509 512 505 508 511) k 508 = I 508 := cpR_ne rfl
    have e4 : cpR I (w3 506 509 512 505 508 511) k 511 = I 511 := cpR_ne rfl
    have e3 := cpR_3 (I := I) (a := 506) (b := 509) (c := 512) (p := 505) (q := 508) (u := 511) (m := k) (by omega)
    obtain ⟨b, hb, hb2⟩ := KyM_b hk0 k (by omega)
    rw [hb2] at e3
    unfold f_m_completes_2
    simp (disch := omega) only [↓sh.gI, ↓sh.pI, ↓sh.ck, ↓cI_x, ↓cV_x, ↓nmI_t, ↓reduceIte, rmI_t, dvI_t, nI_add, pk_mul, pk_sub, nI_leI, nI_ltI, nI_eq, n_leT, n_leF, n_ltT, n_ltF, n_eqT, n_eqF, u2_ne, u2_at, u2_nj, ↓i_neg1, m1_ne, m1_en, m1_lt, m1_le, m1_nlt, m1_nle, i_lits, true_and, and_true, ↓sh.g25, ↓sh.g26, ↓sh.g28, ↓sh.g29, ↓sh.g31, ↓sh.g32, sh.a505, sh.a506, sh.a508, sh.a509, sh.a511, sh.a512, sh.s505, sh.s506, sh.s508, sh.s509, sh.s511, sh.s512, e1, e2, e4, hb2, e3, e]
theorem m_completes (sh : shM T) (hC : MR E D Q r tk I T) : ∃ I', f_m_completes 492 ((I, T) : Mem) = some ((I', T) : Mem) ∧ MR E D (qP Q, qP Q, dR D, dG D, r, qF Q, qB Q) 0 tk I' T ∧ FM I I' := by
  obtain ⟨q1, q2, q3, q4, q5, q6, q7, q8, q9⟩ := hC
  have e1 := com_loop1 (T := T) sh q8.1 96 FU 0 (by omega) (by unfold FU; omega)
  rw [cpR_0] at e1
  obtain ⟨I1, hI1⟩ : ∃ I1, I1 = cpR I (w3 506 509 512 505 508 511) 96 := ⟨_, rfl⟩
  have e2 := com_loop2 (I := I1) (T := T) sh 18 FU 0 (by omega) (by unfold FU; omega)
  rw [cpR_0] at e2
  obtain ⟨v1, v2, v3, v4, v5, v6, v7, v8⟩ := q9
  have g1 : ∀ a, a ≠ 506 → a ≠ 509 → a ≠ 512 → I1 a = I a := fun a h1 h2 h3 => by
    rw [hI1]
    exact cpR_ne (by unfold w3; rw [if_neg h1, if_neg h2, if_neg h3])
  have g2 : ∀ a, a ≠ 515 → cpR I1 (w3 515 515 515 514 514 514) 18 a = I1 a := fun a h1 => cpR_ne (by unfold w3; rw [if_neg h1, if_neg h1, if_neg h1])
  have g3 : ∀ x, x < 96 → I1 506 x = I 505 x ∧ I1 509 x = I 508 x ∧ I1 512 x = I 511 x := fun x hx => by
    rw [hI1, cpR_at hx, cpR_at hx, cpR_at hx]
    exact ⟨rfl, rfl, rfl⟩
  have g4 : ∀ x, x < 18 → cpR I1 (w3 515 515 515 514 514 514) 18 515 x = I1 514 x := fun x hx => cpR_at hx
  rw [g1 492 (by omega) (by omega) (by omega)] at e2
  obtain ⟨I2, hI2⟩ : ∃ I2, I2 = u2 (u2 (u2 (cpR I1 (w3 515 515 515 514 514 514) 18) 492 37 (I 492 36)) 492 16 (I 492 17)) 492 17 (nI 0) := ⟨_, rfl⟩
  have k0 : ∀ a, a ≠ 492 → a ≠ 506 ∧ a ≠ 509 ∧ a ≠ 512 ∧ a ≠ 515 → I2 a = I a := fun a h1 h2 => by
    rw [hI2, u2_ne h1, u2_ne h1, u2_ne h1, g2 a h2.2.2.2, g1 a h2.1 h2.2.1 h2.2.2.1]
  have k1 : ∀ j, j ≠ 37 → j ≠ 16 → j ≠ 17 → I2 492 j = I 492 j := fun j h1 h2 h3 => by
    rw [hI2, u2_nj rfl h3, u2_nj rfl h2, u2_nj rfl h1, g2 492 (by omega), g1 492 (by omega) (by omega) (by omega)]
  have k2 : ∀ a, a ≠ 492 → I2 a = cpR I1 (w3 515 515 515 514 514 514) 18 a := fun a h => by rw [hI2, u2_ne h, u2_ne h, u2_ne h]
  have fm : FM I I2 := ⟨fun a h1 _ => k0 a h1 (by omega), fun j _ => k1 j (by omega) (by omega) (by omega)⟩
  refine ⟨I2, ?_, ⟨CoM_cg q1 fm, ChsM_cg q2 (fun a _ _ => k0 a (by omega) (by omega)), InsM_cg q3 (fun a _ => k0 a (by omega) (by omega)), KyM_cg q4 (k0 _ (by omega) (by omega)) (k0 _ (by omega) (by omega)) (k0 _ (by omega) (by omega)), StM_cg q5 (fun a _ _ => k0 a (by omega) (by omega)), ScM_cg q6 (fun j _ => k1 j (by omega) (by omega) (by omega)), LaM_cg q7 (k0 _ (by omega) (by omega)) (k1 _ (by omega) (by omega) (by omega)), RuM_cg q8 (fun a _ => k0 a (by omega) (by omega)), ?_, fun s hs => ?_, ?_, ?_, ?_, ?_, ?_, ?_⟩, fm⟩
  · unfold f_m_completes
    rw [hI2, ← e2, show (0 : Int32) = nI 0 from rfl, hI1]
    exact e1
  · refine KyM_cp q8.1 (fun x hx => ?_)
    rw [k2 506 (by omega), k2 509 (by omega), k2 512 (by omega), g2 506 (by omega), g2 509 (by omega), g2 512 (by omega)]
    exact g3 x hx
  · rw [k2 515 (by omega), g4 s hs, g1 514 (by omega) (by omega) (by omega)]
    exact q8.2 s hs
  · rw [hI2, u2_nj rfl (by omega), u2_at rfl rfl]; exact v4
  · rw [hI2]; exact u2_at rfl rfl
  · rw [k1 18 (by omega) (by omega) (by omega)]; exact v5
  · rw [k1 19 (by omega) (by omega) (by omega)]; exact v6
  · rw [k1 36 (by omega) (by omega) (by omega)]; exact v7
  · rw [hI2, u2_nj rfl (by omega), u2_nj rfl (by omega), u2_at rfl rfl]; exact v7
end
