/-! CALLS: the reference goes back to the saved, begins anew -/
/-- the first m places of the rows l as V has them -/
def fil (I V : Iw) (l : List Nat) (m : Nat) : Iw := fun a x => if x < m ∧ a ∈ l then V a x else I a x
def vB (I : Iw) : Iw := fun a x => if a = 513 then I 515 x else if a = 504 then I 506 x else if a = 507 then I 509 x else if a = 510 then I 512 x else nI 0
section
variable {T T' : Tl} {I I' V : Iw} {E E' : Env} {D D' : Dy} {Q Q' : Slow} {S : Sy} {l : List Nat} {o i j s c r tk k m : Nat}
theorem fil_0 : fil I V l 0 = I := by
  funext a x
  exact if_neg (by omega)
theorem fil_ne {a : Nat} (h : a ∉ l) : fil I V l m a = I a := by
  funext x
  exact if_neg (fun z => h z.2)
theorem fil_at {a x : Nat} (h : a ∈ l) (hx : x < m) : fil I V l m a x = V a x := if_pos ⟨hx, h⟩
theorem fil_no {a x : Nat} (hx : m ≤ x) : fil I V l m a x = I a x := if_neg (fun z => by omega)
theorem fold_u2 : ∀ (l : List Nat) (J : Iw) (a x : Nat), l.foldl (fun J a => u2 J a m (V a m)) J a x = if x = m ∧ a ∈ l then V a m else J a x
  | [], J, a, x => by rw [if_neg (fun z => by cases z.2)]; rfl
  | b :: l, J, a, x => by
    rw [List.foldl_cons, fold_u2 l]
    by_cases h1 : x = m ∧ a ∈ l
    · rw [if_pos h1, if_pos ⟨h1.1, List.mem_cons_of_mem _ h1.2⟩]
    · rw [if_neg h1]
      by_cases h2 : x = m ∧ a = b
      · rw [u2_at h2.2 h2.1, if_pos ⟨h2.1, by rw [h2.2]; exact List.mem_cons_self⟩, h2.2]
      · rw [if_neg (fun z => by
          rcases List.mem_cons.mp z.2 with e | e
          · exact h2 ⟨z.1, e⟩
          · exact h1 ⟨z.1, e⟩)]
        exact if_neg (fun z => h2 ⟨z.2, z.1⟩)
theorem fil_step : l.foldl (fun J a => u2 J a m (V a m)) (fil I V l m) = fil I V l (m + 1) := by
  funext a x
  rw [fold_u2]
  unfold fil
  by_cases h1 : x = m ∧ a ∈ l
  · rw [if_pos h1, if_pos ⟨by omega, h1.2⟩, h1.1]
  · rw [if_neg h1]
    by_cases h2 : x < m ∧ a ∈ l
    · rw [if_pos h2, if_pos ⟨by omega, h2.2⟩]
    · rw [if_neg h2, if_neg (fun z => by
        by_cases hz : x = m
        · exact h1 ⟨hz, z.2⟩
        · exact h2 ⟨by omega, z.2⟩)]
theorem br3 (sh : shM T) {f : Nat → Kst} (hk0 : KyM I 506 509 512 f) : ∀ (d n k : Nat), k + d = 96 → d < n → f_m_breaks_103 n 492 (nI k) ((fil I (vB I) [504, 507, 510] k, T) : Mem) = some ((u2 (fil I (vB I) [504, 507, 510] 96) 492 14 (I 492 37), T) : Mem)
  | d, 0, k, _, hn => by omega
  | 0, n + 1, k, hk, hn => by
    have : k = 96 := by omega
    subst this
    have e1 : fil I (vB I) [504, 507, 510] 96 492 = I 492 := fil_ne (by decide)
    unfold f_m_breaks_103
    simp (disch := omega) only [↓sh.gI, ↓sh.pI, ↓sh.ck, ↓cI_x, ↓cV_x, ↓nmI_t, ↓reduceIte, rmI_t, dvI_t, nI_add, pk_mul, pk_sub, nI_leI, nI_ltI, nI_eq, n_leT, n_leF, n_ltT, n_ltF, n_eqT, n_eqF, u2_ne, u2_at, u2_nj, ↓i_neg1, m1_ne, m1_en, m1_lt, m1_le, m1_nlt, m1_nle, i_lits, true_and, and_true, ↓sh.g24, ↓sh.g26, ↓sh.g27, ↓sh.g29, ↓sh.g30, ↓sh.g32, sh.a504, sh.a506, sh.a507, sh.a509, sh.a510, sh.a512, sh.s504, sh.s506, sh.s507, sh.s509, sh.s510, sh.s512, e1]
  | d + 1, n + 1, k, hk, hn => by
    have e := br3 sh hk0 d n (k + 1) (by omega) (by omega)
    have e1 : fil I (vB I) [504, 507, 510] k 506 = I 506 := fil_ne (by decide)
    have e2 : fil I (vB I) [504, 507, 510] k 509 = I 509 := fil_ne (by decide)
    have e4 : fil I (vB I) [504, 507, 510] k 512 = I 512 := fil_ne (by decide)
    have e3 : u2 (u2 (u2 (fil I (vB I) [504, 507, 510] k) 504 k (I 506 k)) 507 k (I 509 k)) 510 k (I 512 k) = fil I (vB I) [504, 507, 510] (k + 1) := fil_step (I := I) (V := vB I) (l := [504, 507, 510]) (m := k)
    obtain ⟨b, hb, hb2⟩ := KyM_b hk0 k (by omega)
    rw [hb2] at e3
    unfold f_m_breaks_103
    simp (disch := omega) only [↓sh.gI, ↓sh.pI, ↓sh.ck, ↓cI_x, ↓cV_x, ↓nmI_t, ↓reduceIte, rmI_t, dvI_t, nI_add, pk_mul, pk_sub, nI_leI, nI_ltI, nI_eq, n_leT, n_leF, n_ltT, n_ltF, n_eqT, n_eqF, u2_ne, u2_at, u2_nj, ↓i_neg1, m1_ne, m1_en, m1_lt, m1_le, m1_nlt, m1_nle, i_lits, true_and, and_true, ↓sh.g24, ↓sh.g26, ↓sh.g27, ↓sh.g29, ↓sh.g30, ↓sh.g32, sh.a504, sh.a506, sh.a507, sh.a509, sh.a510, sh.a512, sh.s504, sh.s506, sh.s507, sh.s509, sh.s510, sh.s512, e1, e2, e4, hb2, e3, e]
theorem br2 (sh : shM T) : ∀ (d n k : Nat), k + d = 54 → d < n → f_m_breaks_61 n 492 (nI k) ((fil I (vB I) [523, 524, 528, 529] k, T) : Mem) = f_m_breaks_103 FU 492 (nI 0) ((fil I (vB I) [523, 524, 528, 529] 54, T) : Mem)
  | d, 0, k, _, hn => by omega
  | 0, n + 1, k, hk, hn => by
    have : k = 54 := by omega
    subst this
    unfold f_m_breaks_61
    simp (disch := omega) only [↓sh.gI, ↓sh.pI, ↓sh.ck, ↓cI_x, ↓cV_x, ↓nmI_t, ↓reduceIte, rmI_t, dvI_t, nI_add, pk_mul, pk_sub, nI_leI, nI_ltI, nI_eq, n_leT, n_leF, n_ltT, n_ltF, n_eqT, n_eqF, u2_ne, u2_at, u2_nj, ↓i_neg1, m1_ne, m1_en, m1_lt, m1_le, m1_nlt, m1_nle, i_lits, true_and, and_true, ↓sh.g46, ↓sh.g47, ↓sh.g51, ↓sh.g52, sh.a523, sh.a524, sh.a528, sh.a529, sh.s523, sh.s524, sh.s528, sh.s529]
  | d + 1, n + 1, k, hk, hn => by
    have e := br2 sh d n (k + 1) (by omega) (by omega)
    have e3 : u2 (u2 (u2 (u2 (fil I (vB I) [523, 524, 528, 529] k) 523 k (nI 0)) 524 k (nI 0)) 528 k (nI 0)) 529 k (nI 0) = fil I (vB I) [523, 524, 528, 529] (k + 1) := fil_step (I := I) (V := vB I) (l := [523, 524, 528, 529]) (m := k)
    unfold f_m_breaks_61
    simp (disch := omega) only [↓sh.gI, ↓sh.pI, ↓sh.ck, ↓cI_x, ↓cV_x, ↓nmI_t, ↓reduceIte, rmI_t, dvI_t, nI_add, pk_mul, pk_sub, nI_leI, nI_ltI, nI_eq, n_leT, n_leF, n_ltT, n_ltF, n_eqT, n_eqF, u2_ne, u2_at, u2_nj, ↓i_neg1, m1_ne, m1_en, m1_lt, m1_le, m1_nlt, m1_nle, i_lits, true_and, and_true, ↓sh.g46, ↓sh.g47, ↓sh.g51, ↓sh.g52, sh.a523, sh.a524, sh.a528, sh.a529, sh.s523, sh.s524, sh.s528, sh.s529, e3, e]
theorem br1 (sh : shM T) : ∀ (d n k : Nat), k + d = 18 → d < n → f_m_breaks_7 n 492 (nI k) ((fil I (vB I) [516, 520, 521, 522, 513] k, T) : Mem) = f_m_breaks_61 FU 492 (nI 0) ((fil I (vB I) [516, 520, 521, 522, 513] 18, T) : Mem)
  | d, 0, k, _, hn => by omega
  | 0, n + 1, k, hk, hn => by
    have : k = 18 := by omega
    subst this
    unfold f_m_breaks_7
    simp (disch := omega) only [↓sh.gI, ↓sh.pI, ↓sh.ck, ↓cI_x, ↓cV_x, ↓nmI_t, ↓reduceIte, rmI_t, dvI_t, nI_add, pk_mul, pk_sub, nI_leI, nI_ltI, nI_eq, n_leT, n_leF, n_ltT, n_ltF, n_eqT, n_eqF, u2_ne, u2_at, u2_nj, ↓i_neg1, m1_ne, m1_en, m1_lt, m1_le, m1_nlt, m1_nle, i_lits, true_and, and_true, ↓sh.g33, ↓sh.g35, ↓sh.g39, ↓sh.g43, ↓sh.g44, ↓sh.g45, sh.a513, sh.a515, sh.a516, sh.a520, sh.a521, sh.a522, sh.s513, sh.s515, sh.s516, sh.s520, sh.s521, sh.s522]
  | d + 1, n + 1, k, hk, hn => by
    have e := br1 sh d n (k + 1) (by omega) (by omega)
    have e1 : fil I (vB I) [516, 520, 521, 522, 513] k 515 = I 515 := fil_ne (by decide)
    have e3 : u2 (u2 (u2 (u2 (u2 (fil I (vB I) [516, 520, 521, 522, 513] k) 516 k (nI 0)) 520 k (nI 0)) 521 k (nI 0)) 522 k (nI 0)) 513 k (I 515 k) = fil I (vB I) [516, 520, 521, 522, 513] (k + 1) := fil_step (I := I) (V := vB I) (l := [516, 520, 521, 522, 513]) (m := k)
    unfold f_m_breaks_7
    simp (disch := omega) only [↓sh.gI, ↓sh.pI, ↓sh.ck, ↓cI_x, ↓cV_x, ↓nmI_t, ↓reduceIte, rmI_t, dvI_t, nI_add, pk_mul, pk_sub, nI_leI, nI_ltI, nI_eq, n_leT, n_leF, n_ltT, n_ltF, n_eqT, n_eqF, u2_ne, u2_at, u2_nj, ↓i_neg1, m1_ne, m1_en, m1_lt, m1_le, m1_nlt, m1_nle, i_lits, true_and, and_true, ↓sh.g33, ↓sh.g35, ↓sh.g39, ↓sh.g43, ↓sh.g44, ↓sh.g45, sh.a513, sh.a515, sh.a516, sh.a520, sh.a521, sh.a522, sh.s513, sh.s515, sh.s516, sh.s520, sh.s521, sh.s522, e1, e3, e]
theorem ChM_nil {c : Nat} (h1 : I 523 c = nI 0) (h2 : I 524 c = nI 0) (h3 : I 528 c = nI 0) (h4 : I 529 c = nI 0) : ChM I c ([], [], 0) := ⟨h1, h2, h3, fun j h => absurd h (Nat.not_lt_zero _), 0, by omega, h4, fun _ => rfl, fun x h => absurd h (Nat.not_lt_zero _)⟩
theorem m_breaks (sh : shM T) (hC : MR E D Q r tk I T) : ∃ I', f_m_breaks 492 ((I, T) : Mem) = some ((I', T) : Mem) ∧ MR (esQ E 0) (brkD D Q) Q 0 tk I' T ∧ FM I I' := by
  obtain ⟨q1, q2, q3, q4, q5, q6, q7, q8, q9⟩ := hC
  obtain ⟨v1, v2, v3, v4, v5, v6, v7, v8⟩ := q9
  obtain ⟨I1, hI1⟩ : ∃ I1, I1 = u2 I 492 17 (nI 0) := ⟨_, rfl⟩
  obtain ⟨I2, hI2⟩ : ∃ I2, I2 = fil I1 (vB I1) [516, 520, 521, 522, 513] 18 := ⟨_, rfl⟩
  obtain ⟨I3, hI3⟩ : ∃ I3, I3 = fil I2 (vB I2) [523, 524, 528, 529] 54 := ⟨_, rfl⟩
  obtain ⟨I4, hI4⟩ : ∃ I4, I4 = fil I3 (vB I3) [504, 507, 510] 96 := ⟨_, rfl⟩
  obtain ⟨I5, hI5⟩ : ∃ I5, I5 = u2 I4 492 14 (I 492 37) := ⟨_, rfl⟩
  have g1 : ∀ a, a ≠ 492 → I1 a = I a := fun a h => by rw [hI1]; exact u2_ne h
  have g2 : ∀ a, a ∉ [516, 520, 521, 522, 513] → I2 a = I1 a := fun a h => by rw [hI2]; exact fil_ne h
  have g3 : ∀ a, a ∉ [523, 524, 528, 529] → I3 a = I2 a := fun a h => by rw [hI3]; exact fil_ne h
  have g4 : ∀ a, a ∉ [504, 507, 510] → I4 a = I3 a := fun a h => by rw [hI4]; exact fil_ne h
  have g5 : ∀ a, a ≠ 492 → I5 a = I4 a := fun a h => by rw [hI5]; exact u2_ne h
  have gl : ∀ (a : Nat) (l : List Nat), (∀ b, b ∈ l → a ≠ b) → a ∉ l := fun a l h z => h a z rfl
  have fr : ∀ a, a ≠ 492 → (a < 504 ∨ a = 505 ∨ a = 506 ∨ a = 508 ∨ a = 509 ∨ a = 511 ∨ a = 512 ∨ a = 514 ∨ a = 515 ∨ 529 < a) → I5 a = I a := fun a h1 h2 => by
    rw [g5 a h1, g4 a (gl _ _ (fun b hb => by simp only [List.mem_cons, List.not_mem_nil, or_false] at hb; omega)), g3 a (gl _ _ (fun b hb => by simp only [List.mem_cons, List.not_mem_nil, or_false] at hb; omega)), g2 a (gl _ _ (fun b hb => by simp only [List.mem_cons, List.not_mem_nil, or_false] at hb; omega)), g1 a h1]
  have f492 : I4 492 = I1 492 := by rw [g4 492 (by decide), g3 492 (by decide), g2 492 (by decide)]
  have fj : ∀ j, j ≠ 17 → j ≠ 14 → I5 492 j = I 492 j := fun j h1 h2 => by rw [hI5, u2_nj rfl h2, f492, hI1, u2_nj rfl h1]
  have fm : FM I I5 := ⟨fun a h1 h2 => fr a h1 (by omega), fun j _ => fj j (by omega) (by omega)⟩
  have fz : ∀ a x, x < 54 → a ∈ [523, 524, 528, 529] → I5 a x = nI 0 := fun a x hx ha => by
    have h0 : a ≠ 492 ∧ a ≠ 504 ∧ a ≠ 507 ∧ a ≠ 510 ∧ a ≠ 513 := by simp only [List.mem_cons, List.not_mem_nil, or_false] at ha; omega
    rw [g5 a h0.1, g4 a (gl _ _ (fun b hb => by simp only [List.mem_cons, List.not_mem_nil, or_false] at hb; omega)), hI3, fil_at ha hx]
    unfold vB
    rw [if_neg h0.2.2.2.2, if_neg h0.2.1, if_neg h0.2.2.1, if_neg h0.2.2.2.1]
  have fy : ∀ a x, x < 18 → a ∈ [516, 520, 521, 522, 513] → I5 a x = vB I1 a x := fun a x hx ha => by
    have h0 : a ≠ 492 ∧ a ≠ 504 ∧ a ≠ 507 ∧ a ≠ 510 ∧ a ≠ 523 ∧ a ≠ 524 ∧ a ≠ 528 ∧ a ≠ 529 := by simp only [List.mem_cons, List.not_mem_nil, or_false] at ha; omega
    rw [g5 a h0.1, g4 a (gl _ _ (fun b hb => by simp only [List.mem_cons, List.not_mem_nil, or_false] at hb; omega)), g3 a (gl _ _ (fun b hb => by simp only [List.mem_cons, List.not_mem_nil, or_false] at hb; omega)), hI2, fil_at ha hx]
  have fk : ∀ a x, x < 96 → a ∈ [504, 507, 510] → I5 a x = vB I3 a x := fun a x hx ha => by
    have h0 : a ≠ 492 := by simp only [List.mem_cons, List.not_mem_nil, or_false] at ha; omega
    rw [g5 a h0, hI4, fil_at ha hx]
  have f3 : ∀ a, (a = 506 ∨ a = 509 ∨ a = 512) → I3 a = I a := fun a h => by
    rw [g3 a (gl _ _ (fun b hb => by simp only [List.mem_cons, List.not_mem_nil, or_false] at hb; omega)), g2 a (gl _ _ (fun b hb => by simp only [List.mem_cons, List.not_mem_nil, or_false] at hb; omega)), g1 a (by omega)]
  refine ⟨I5, ?_, ⟨CoM_cg (E := esQ E 0) q1 fm, fun c hc => ChM_nil (fz _ c hc (by decide)) (fz _ c hc (by decide)) (fz _ c hc (by decide)) (fz _ c hc (by decide)), fun s hs => ⟨⟨fy 516 s hs (by decide), fun j h => absurd h (Nat.not_lt_zero _)⟩, fy 520 s hs (by decide), fy 521 s hs (by decide), fy 522 s hs (by decide), ?_⟩, ?_, StM_cg q5 (fun a _ _ => fr a (by omega) (by omega)), ⟨?_, (fj 15 (by omega) (by omega)).trans q6.2.1, fun w => absurd rfl w⟩, LaM_cg q7 (fr _ (by omega) (by omega)) (fj 58 (by omega) (by omega)), RuM_cg q8 (fun a _ => fr a (by omega) (by omega)), KyM_cg v1 (fr _ (by omega) (by omega)) (fr _ (by omega) (by omega)) (fr _ (by omega) (by omega)), fun s hs => ?_, (fj 16 (by omega) (by omega)).trans v3, ?_, (fj 18 (by omega) (by omega)).trans v5, (fj 19 (by omega) (by omega)).trans v6, (fj 36 (by omega) (by omega)).trans v7, (fj 37 (by omega) (by omega)).trans v8⟩, fm⟩
  · have e3 := br3 (I := I3) (f := qV Q) (T := T) sh (KyM_cg v1 (f3 506 (by omega)) (f3 509 (by omega)) (f3 512 (by omega))) 96 FU 0 (by omega) (by unfold FU; omega)
    have e2 := br2 (I := I2) (T := T) sh 54 FU 0 (by omega) (by unfold FU; omega)
    have e1 := br1 (I := I1) (T := T) sh 18 FU 0 (by omega) (by unfold FU; omega)
    rw [fil_0] at e1 e2 e3
    rw [← hI2] at e1
    rw [← hI3] at e2
    have h37 : I3 492 37 = I 492 37 := by rw [g3 492 (by decide), g2 492 (by decide), hI1, u2_nj rfl (by omega)]
    rw [← hI4, h37, ← hI5] at e3
    unfold f_m_breaks
    rw [sh.pI, show (0 : Int32) = nI 0 from rfl, ← hI1, e1, e2, e3]
  · rw [fy 513 s hs (by decide)]
    show I1 515 s = nI (qR Q s)
    rw [g1 515 (by omega)]
    exact v2 s hs
  · refine KyM_cp v1 (fun x hx => ?_)
    rw [fk 504 x hx (by decide), fk 507 x hx (by decide), fk 510 x hx (by decide)]
    show I3 506 x = I 506 x ∧ I3 509 x = I 509 x ∧ I3 512 x = I 512 x
    rw [f3 506 (by omega), f3 509 (by omega), f3 512 (by omega)]
    exact ⟨rfl, rfl, rfl⟩
  · rw [hI5, u2_at rfl rfl]; exact v8
  · rw [fr 515 (by omega) (by omega)]; exact v2 s hs
  · rw [hI5, u2_nj rfl (by omega), f492, hI1]; exact u2_at rfl rfl
theorem bg4 (sh : shM T) : ∀ (d n k : Nat), k + d = 6 → d < n → f_m_begins_114 n 492 (nI k) ((fil I (vB I) [500, 501, 502, 503] k, T) : Mem) = cV (f_m_breaks 492 ((fil I (vB I) [500, 501, 502, 503] 6, T) : Mem)) (fun M1 => some M1)
  | d, 0, k, _, hn => by omega
  | 0, n + 1, k, hk, hn => by
    have : k = 6 := by omega
    subst this
    unfold f_m_begins_114
    simp (disch := omega) only [↓sh.gI, ↓sh.pI, ↓sh.ck, ↓cI_x, ↓cV_x, ↓nmI_t, ↓reduceIte, rmI_t, dvI_t, nI_add, pk_mul, pk_sub, nI_leI, nI_ltI, nI_eq, n_leT, n_leF, n_ltT, n_ltF, n_eqT, n_eqF, u2_ne, u2_at, u2_nj, ↓i_neg1, m1_ne, m1_en, m1_lt, m1_le, m1_nlt, m1_nle, i_lits, true_and, and_true, ↓sh.g20, ↓sh.g21, ↓sh.g22, ↓sh.g23, sh.a500, sh.a501, sh.a502, sh.a503, sh.s500, sh.s501, sh.s502, sh.s503]
  | d + 1, n + 1, k, hk, hn => by
    have e := bg4 sh d n (k + 1) (by omega) (by omega)
    have e3 : u2 (u2 (u2 (u2 (fil I (vB I) [500, 501, 502, 503] k) 500 k (nI 0)) 501 k (nI 0)) 502 k (nI 0)) 503 k (nI 0) = fil I (vB I) [500, 501, 502, 503] (k + 1) := fil_step (I := I) (V := vB I) (l := [500, 501, 502, 503]) (m := k)
    unfold f_m_begins_114
    simp (disch := omega) only [↓sh.gI, ↓sh.pI, ↓sh.ck, ↓cI_x, ↓cV_x, ↓nmI_t, ↓reduceIte, rmI_t, dvI_t, nI_add, pk_mul, pk_sub, nI_leI, nI_ltI, nI_eq, n_leT, n_leF, n_ltT, n_ltF, n_eqT, n_eqF, u2_ne, u2_at, u2_nj, ↓i_neg1, m1_ne, m1_en, m1_lt, m1_le, m1_nlt, m1_nle, i_lits, true_and, and_true, ↓sh.g20, ↓sh.g21, ↓sh.g22, ↓sh.g23, sh.a500, sh.a501, sh.a502, sh.a503, sh.s500, sh.s501, sh.s502, sh.s503, e3, e]
theorem bg3 (sh : shM T) : ∀ (d n k : Nat), k + d = 18 → d < n → f_m_begins_93 n 492 (nI k) ((fil I (vB I) [515] k, T) : Mem) = f_m_begins_114 FU 492 (nI 0) ((fil I (vB I) [515] 18, T) : Mem)
  | d, 0, k, _, hn => by omega
  | 0, n + 1, k, hk, hn => by
    have : k = 18 := by omega
    subst this
    unfold f_m_begins_93
    simp (disch := omega) only [↓sh.gI, ↓sh.pI, ↓sh.ck, ↓cI_x, ↓cV_x, ↓nmI_t, ↓reduceIte, rmI_t, dvI_t, nI_add, pk_mul, pk_sub, nI_leI, nI_ltI, nI_eq, n_leT, n_leF, n_ltT, n_ltF, n_eqT, n_eqF, u2_ne, u2_at, u2_nj, ↓i_neg1, m1_ne, m1_en, m1_lt, m1_le, m1_nlt, m1_nle, i_lits, true_and, and_true, ↓sh.g35, sh.a515, sh.s515]
  | d + 1, n + 1, k, hk, hn => by
    have e := bg3 sh d n (k + 1) (by omega) (by omega)
    have e3 : u2 (fil I (vB I) [515] k) 515 k (nI 0) = fil I (vB I) [515] (k + 1) := fil_step (I := I) (V := vB I) (l := [515]) (m := k)
    unfold f_m_begins_93
    simp (disch := omega) only [↓sh.gI, ↓sh.pI, ↓sh.ck, ↓cI_x, ↓cV_x, ↓nmI_t, ↓reduceIte, rmI_t, dvI_t, nI_add, pk_mul, pk_sub, nI_leI, nI_ltI, nI_eq, n_leT, n_leF, n_ltT, n_ltF, n_eqT, n_eqF, u2_ne, u2_at, u2_nj, ↓i_neg1, m1_ne, m1_en, m1_lt, m1_le, m1_nlt, m1_nle, i_lits, true_and, and_true, ↓sh.g35, sh.a515, sh.s515, e3, e]
theorem bg2 (sh : shM T) : ∀ (d n k : Nat), k + d = 96 → d < n → f_m_begins_58 n 492 (nI k) ((fil I (vB I) [506, 509, 512] k, T) : Mem) = f_m_begins_93 FU 492 (nI 0) ((fil I (vB I) [506, 509, 512] 96, T) : Mem)
  | d, 0, k, _, hn => by omega
  | 0, n + 1, k, hk, hn => by
    have : k = 96 := by omega
    subst this
    unfold f_m_begins_58
    simp (disch := omega) only [↓sh.gI, ↓sh.pI, ↓sh.ck, ↓cI_x, ↓cV_x, ↓nmI_t, ↓reduceIte, rmI_t, dvI_t, nI_add, pk_mul, pk_sub, nI_leI, nI_ltI, nI_eq, n_leT, n_leF, n_ltT, n_ltF, n_eqT, n_eqF, u2_ne, u2_at, u2_nj, ↓i_neg1, m1_ne, m1_en, m1_lt, m1_le, m1_nlt, m1_nle, i_lits, true_and, and_true, ↓sh.g26, ↓sh.g29, ↓sh.g32, sh.a506, sh.a509, sh.a512, sh.s506, sh.s509, sh.s512]
  | d + 1, n + 1, k, hk, hn => by
    have e := bg2 sh d n (k + 1) (by omega) (by omega)
    have e3 : u2 (u2 (u2 (fil I (vB I) [506, 509, 512] k) 506 k (nI 0)) 509 k (nI 0)) 512 k (nI 0) = fil I (vB I) [506, 509, 512] (k + 1) := fil_step (I := I) (V := vB I) (l := [506, 509, 512]) (m := k)
    unfold f_m_begins_58
    simp (disch := omega) only [↓sh.gI, ↓sh.pI, ↓sh.ck, ↓cI_x, ↓cV_x, ↓nmI_t, ↓reduceIte, rmI_t, dvI_t, nI_add, pk_mul, pk_sub, nI_leI, nI_ltI, nI_eq, n_leT, n_leF, n_ltT, n_ltF, n_eqT, n_eqF, u2_ne, u2_at, u2_nj, ↓i_neg1, m1_ne, m1_en, m1_lt, m1_le, m1_nlt, m1_nle, i_lits, true_and, and_true, ↓sh.g26, ↓sh.g29, ↓sh.g32, sh.a506, sh.a509, sh.a512, sh.s506, sh.s509, sh.s512, e3, e]
theorem bg1 (sh : shM T) : ∀ (d n k : Nat), k + d = 40000 → d < n → f_m_begins_17 n 492 (nI k) ((fil I (vB I) [534] k, T) : Mem) = f_m_begins_58 FU 492 (nI 0) ((u2 (u2 (u2 (u2 (fil I (vB I) [534] 40000) 492 16 (nI 0)) 492 18 (nI 0)) 492 19 (nI 0)) 492 37 (nI 0), T) : Mem)
  | d, 0, k, _, hn => by omega
  | 0, n + 1, k, hk, hn => by
    have : k = 40000 := by omega
    subst this
    have e0 : (40000 : Int32) = nI 40000 := rfl
    unfold f_m_begins_17
    simp (disch := omega) only [↓sh.gI, ↓sh.pI, ↓sh.ck, ↓cI_x, ↓cV_x, ↓nmI_t, ↓reduceIte, rmI_t, dvI_t, nI_add, pk_mul, pk_sub, nI_leI, nI_ltI, nI_eq, n_leT, n_leF, n_ltT, n_ltF, n_eqT, n_eqF, u2_ne, u2_at, u2_nj, ↓i_neg1, m1_ne, m1_en, m1_lt, m1_le, m1_nlt, m1_nle, i_lits, true_and, and_true, ↓sh.g57, sh.a534, sh.s534, sh.pZ, e0]
  | d + 1, n + 1, k, hk, hn => by
    have e := bg1 sh d n (k + 1) (by omega) (by omega)
    have e0 : (40000 : Int32) = nI 40000 := rfl
    have e3 : u2 (fil I (vB I) [534] k) 534 k (nI 0) = fil I (vB I) [534] (k + 1) := fil_step (I := I) (V := vB I) (l := [534]) (m := k)
    unfold f_m_begins_17
    simp (disch := omega) only [↓sh.gI, ↓sh.pI, ↓sh.ck, ↓cI_x, ↓cV_x, ↓nmI_t, ↓reduceIte, rmI_t, dvI_t, nI_add, pk_mul, pk_sub, nI_leI, nI_ltI, nI_eq, n_leT, n_leF, n_ltT, n_ltF, n_eqT, n_eqF, u2_ne, u2_at, u2_nj, ↓i_neg1, m1_ne, m1_en, m1_lt, m1_le, m1_nlt, m1_nle, i_lits, true_and, and_true, ↓sh.g57, sh.a534, sh.s534, sh.pZ, e0, e3, e]
theorem zer_f (D : Dy) : dC (zerD D) = dC D ∧ dL (zerD D) = dL D ∧ dH (zerD D) = dH D ∧ dS (zerD D) = dS D ∧ dP (zerD D) = dP D ∧ dN (zerD D) = dN D ∧ dR (zerD D) = dR D ∧ dK (zerD D) = dK D ∧ dG (zerD D) = dG D ∧ dO (zerD D) = dO D ∧ dW (zerD D) = dW D := by
  unfold zerD
  simp only [gs_U, gs_M, gs_T, gs_I, gs_B, gs_Y, gs_X, and_self]
theorem zer_z (D : Dy) : dX (zerD D) = (fun _ => 0) ∧ dY (zerD D) = (fun _ => 0) ∧ dB (zerD D) = (fun _ => 0) ∧ dI (zerD D) = (fun _ => 0) ∧ dT (zerD D) = (fun _ => 0) ∧ dM (zerD D) = 0 ∧ dU (zerD D) = 0 := by
  unfold zerD
  simp only [gs_U, gs_M, gs_T, gs_I, gs_B, gs_Y, gs_X, and_self]
theorem m_begins (sh : shM T) (hC : MR E D Q r tk I T) : ∃ I' T', f_m_begins 492 ((I, T) : Mem) = some ((I', T') : Mem) ∧ MR (esQ (esT E 0) 0) (brkD (zerD D) (slow0 Q)) (slow0 Q) 0 0 I' T' ∧ FM I I' ∧ JM T T' := by
  obtain ⟨q1, q2, q3, q4, q5, q6, q7, q8, q9⟩ := hC
  obtain ⟨v1, v2, v3, v4, v5, v6, v7, v8⟩ := q9
  obtain ⟨I1, hI1⟩ : ∃ I1, I1 = u2 (u2 I 492 15 (nI 0)) 492 58 (nI 0) := ⟨_, rfl⟩
  obtain ⟨I2, hI2⟩ : ∃ I2, I2 = fil I1 (vB I1) [534] 40000 := ⟨_, rfl⟩
  obtain ⟨I3, hI3⟩ : ∃ I3, I3 = u2 (u2 (u2 (u2 I2 492 16 (nI 0)) 492 18 (nI 0)) 492 19 (nI 0)) 492 37 (nI 0) := ⟨_, rfl⟩
  obtain ⟨I4, hI4⟩ : ∃ I4, I4 = fil I3 (vB I3) [506, 509, 512] 96 := ⟨_, rfl⟩
  obtain ⟨I5, hI5⟩ : ∃ I5, I5 = fil I4 (vB I4) [515] 18 := ⟨_, rfl⟩
  obtain ⟨I6, hI6⟩ : ∃ I6, I6 = fil I5 (vB I5) [500, 501, 502, 503] 6 := ⟨_, rfl⟩
  have gl : ∀ (a : Nat) (l : List Nat), (∀ b, b ∈ l → a ≠ b) → a ∉ l := fun a l h z => h a z rfl
  have g1 : ∀ a, a ≠ 492 → I1 a = I a := fun a h => by rw [hI1, u2_ne h, u2_ne h]
  have g2 : ∀ a, a ≠ 534 → I2 a = I1 a := fun a h => by rw [hI2]; exact fil_ne (gl _ _ (fun b hb => by simp only [List.mem_cons, List.not_mem_nil, or_false] at hb; omega))
  have g3 : ∀ a, a ≠ 492 → I3 a = I2 a := fun a h => by rw [hI3, u2_ne h, u2_ne h, u2_ne h, u2_ne h]
  have g4 : ∀ a, (a ≠ 506 ∧ a ≠ 509 ∧ a ≠ 512) → I4 a = I3 a := fun a h => by rw [hI4]; exact fil_ne (gl _ _ (fun b hb => by simp only [List.mem_cons, List.not_mem_nil, or_false] at hb; omega))
  have g5 : ∀ a, a ≠ 515 → I5 a = I4 a := fun a h => by rw [hI5]; exact fil_ne (gl _ _ (fun b hb => by simp only [List.mem_cons, List.not_mem_nil, or_false] at hb; omega))
  have g6 : ∀ a, (a < 500 ∨ 503 < a) → I6 a = I5 a := fun a h => by rw [hI6]; exact fil_ne (gl _ _ (fun b hb => by simp only [List.mem_cons, List.not_mem_nil, or_false] at hb; omega))
  have fr : ∀ a, a ≠ 492 → (a < 500 ∨ (503 < a ∧ a ≠ 506 ∧ a ≠ 509 ∧ a ≠ 512 ∧ a ≠ 515 ∧ a ≠ 534)) → I6 a = I a := fun a h1 h2 => by
    rw [g6 a (by omega), g5 a (by omega), g4 a (by omega), g3 a h1, g2 a (by omega), g1 a h1]
  have f492 : ∀ j, I6 492 j = I3 492 j := fun j => by rw [g6 492 (by omega), g5 492 (by omega), g4 492 (by omega)]
  have fj : ∀ j, j ≠ 15 → j ≠ 58 → j ≠ 16 → j ≠ 18 → j ≠ 19 → j ≠ 37 → I6 492 j = I 492 j := fun j h1 h2 h3 h4 h5 h6 => by
    rw [f492, hI3, u2_nj rfl h6, u2_nj rfl h5, u2_nj rfl h4, u2_nj rfl h3, g2 492 (by omega), hI1, u2_nj rfl h2, u2_nj rfl h1]
  have fm : FM I I6 := ⟨fun a h1 h2 => fr a h1 (by omega), fun j _ => fj j (by omega) (by omega) (by omega) (by omega) (by omega) (by omega)⟩
  have z1 : ∀ x, x < 40000 → I6 534 x = nI 0 := fun x hx => by
    rw [g6 534 (by omega), g5 534 (by omega), g4 534 (by omega), g3 534 (by omega), hI2]
    exact fil_at (by decide) hx
  have z2 : ∀ a x, x < 96 → a ∈ [506, 509, 512] → I6 a x = nI 0 := fun a x hx ha => by
    have h0 : a = 506 ∨ a = 509 ∨ a = 512 := by simp only [List.mem_cons, List.not_mem_nil, or_false] at ha; omega
    rw [g6 a (by omega), g5 a (by omega), hI4, fil_at ha hx]
    unfold vB
    rw [if_neg (by omega), if_neg (by omega), if_neg (by omega), if_neg (by omega)]
  have z3 : ∀ x, x < 18 → I6 515 x = nI 0 := fun x hx => by
    rw [g6 515 (by omega), hI5]
    exact fil_at (by decide) hx
  have z4 : ∀ a x, x < 6 → a ∈ [500, 501, 502, 503] → I6 a x = nI 0 := fun a x hx ha => by
    have h0 : a = 500 ∨ a = 501 ∨ a = 502 ∨ a = 503 := by simp only [List.mem_cons, List.not_mem_nil, or_false] at ha; omega
    rw [hI6, fil_at ha hx]
    unfold vB
    rw [if_neg (by omega), if_neg (by omega), if_neg (by omega), if_neg (by omega)]
  obtain ⟨y1, y2, y3, y4, y5, y6, y7, y8, y9, y10, y11⟩ := zer_f D
  obtain ⟨y12, y13, y14, y15, y16, y17, y18⟩ := zer_z D
  have hM : MR (esT E 0) (zerD D) (slow0 Q) r 0 I6 (seJ T 492 59 0) := by
    unfold MR ChsM InsM StM ScM LaM RuM
    rw [y1, y2, y3, y4, y5, y6, y7, y8, y9, y10, y11, y12, y13, y14, y15, y16, y17, y18]
    refine ⟨CoM_cg (E := esT E 0) q1 fm, ChsM_cg q2 (fun a _ _ => ?_), InsM_cg q3 (fun a h => fr a (by omega) (by omega)), KyM_cg q4 (fr _ (by omega) (by omega)) (fr _ (by omega) (by omega)) (fr _ (by omega) (by omega)), fun o ho => ⟨z4 _ o ho (by decide), z4 _ o ho (by decide), z4 _ o ho (by decide), z4 _ o ho (by decide)⟩, ⟨(fj 14 (by omega) (by omega) (by omega) (by omega) (by omega) (by omega)).trans q6.1, ?_, fun w => (fj 38 (by omega) (by omega) (by omega) (by omega) (by omega) (by omega)).trans (q6.2.2 w)⟩, ⟨fun t ht => z1 t ht, ?_, ?_⟩, RuM_cg q8 (fun a h => fr a (by omega) (by omega)), fun o k ho => ⟨?_, fun x hx => by cases hx⟩, fun s hs => z3 s hs, ?_, (fj 17 (by omega) (by omega) (by omega) (by omega) (by omega) (by omega)).trans v4, ?_, ?_, (fj 36 (by omega) (by omega) (by omega) (by omega) (by omega) (by omega)).trans v7, ?_⟩
    · exact fr a (by omega) (by omega)
    · rw [f492, hI3, u2_nj rfl (by omega), u2_nj rfl (by omega), u2_nj rfl (by omega), u2_nj rfl (by omega), g2 492 (by omega), hI1, u2_nj rfl (by omega)]; exact u2_at rfl rfl
    · rw [f492, hI3, u2_nj rfl (by omega), u2_nj rfl (by omega), u2_nj rfl (by omega), u2_nj rfl (by omega), g2 492 (by omega), hI1]; exact u2_at rfl rfl
    · have : tJ (seJ T 492 59 0) 492 59 = 0 := (show u2 (tJ T) 492 59 (0 : Int64) 492 59 = 0 from u2_at rfl rfl)
      rw [this]; rfl
    · have hk := k.isLt
      exact z2 506 _ (by omega) (by decide)
    · rw [f492, hI3, u2_nj rfl (by omega), u2_nj rfl (by omega), u2_nj rfl (by omega)]; exact u2_at rfl rfl
    · rw [f492, hI3, u2_nj rfl (by omega), u2_nj rfl (by omega)]; exact u2_at rfl rfl
    · rw [f492, hI3, u2_nj rfl (by omega)]; exact u2_at rfl rfl
    · rw [f492, hI3]; exact u2_at rfl rfl
  have sh2 : shM (seJ T 492 59 0) := sh.ofJ _ _ _
  obtain ⟨I7, e7, C7, F7⟩ := m_breaks sh2 hM
  refine ⟨I7, seJ T 492 59 0, ?_, C7, FM_tr fm F7, JM_se⟩
  have e1 := bg1 (I := I1) sh2 40000 FU 0 (by omega) (by unfold FU; omega)
  have e2 := bg2 (I := I3) sh2 96 FU 0 (by omega) (by unfold FU; omega)
  have e3 := bg3 (I := I4) sh2 18 FU 0 (by omega) (by unfold FU; omega)
  have e4 := bg4 (I := I5) sh2 6 FU 0 (by omega) (by unfold FU; omega)
  rw [fil_0] at e1 e2 e3 e4
  rw [← hI2, ← hI3] at e1
  rw [← hI4] at e2
  rw [← hI5] at e3
  rw [← hI6] at e4
  unfold f_m_begins
  rw [sh.pI, sh.pI, sh.pJ, show (0 : Int32) = nI 0 from rfl, ← hI1, e1, e2, e3, e4, e7]
  rfl
end
