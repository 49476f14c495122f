/-! THE REFERENCE: ready, saves, completes -/
section
variable {T : Tl} {I I' : Iw} {E : Env} {D : Dy} {Q : Slow} {o i j s c r tk : Nat}
theorem readyM_loop (sh : shM T) (hE : okE E) (hC : CoM I E) (hH : ChsM I D) (hN : InsM I D) (hI : Inv E D) (h1o : 1 ≤ o) (hs : vS E o i) (hP : dP D (spt o i) < 3) : ∀ (d n k : Nat), k + d = eP E (o - 1) → d < n → f_m_ready_9 n 492 (nI o) (nI i) (nI (spt o i)) (nI k) ((I, T) : Mem) = some (oI ((ff (fun k => !(dS D (spt o i)).testBit ((dP D (spt o i) + k) % eP E (o - 1)) && !(dC D (lin (o - 1) ((dP D (spt o i) + k) % eP E (o - 1)) i)).1.isEmpty) k d).map fun k => (dP D (spt o i) + k) % eP E (o - 1)), ((I, T) : Mem))
  | d, 0, k, _, hn => by omega
  | 0, n + 1, k, hk, hn => by
    have n4 := hE.1
    have ho := hs.1
    have p3 := hE.p3 (o := o - 1) (by omega)
    obtain ⟨-, -, -, c4⟩ := hC.op (o := o - 1) (by omega)
    unfold f_m_ready_9 ff
    simp (disch := omega) only [↓sh.gI, ↓sh.pI, ↓sh.ck, ↓cI_x, ↓cV_x, ↓nmI_t, ↓reduceIte, rmI_t, dvI_t, nI_add, pk_mul, pk_sub, nI_leI, nI_ltI, nI_eq, n_leT, n_leF, n_ltT, n_ltF, n_eqT, n_eqF, u2_ne, u2_at, u2_nj, ↓i_neg1, m1_ne, m1_en, m1_lt, m1_le, m1_nlt, m1_nle, i_lits, true_and, and_true, ↓sh.g6, ↓sh.g43, ↓sh.g44, ↓sh.g51, sh.a497, sh.a520, sh.a521, sh.a528, sh.s497, sh.s520, sh.s521, sh.s528, c4]
    rfl
  | d + 1, n + 1, k, hk, hn => by
    have hn4 := hE.1
    have ho := hs.1
    have p1 := hE.p1 (o := o - 1) (by omega)
    have p3 := hE.p3 (o := o - 1) (by omega)
    have i3 := hs.i3 hE
    have s18 := spt18 hE hs
    have ih := readyM_loop sh hE hC hH hN hI h1o hs hP d n (k + 1) (by omega) (by omega)
    have hm := (hI.2.2.1 o i hs).2.2 h1o
    have h28 : (2 : Nat) ^ eP E (o - 1) ≤ 2 ^ 3 := Nat.pow_le_pow_right (by omega) p3
    obtain ⟨-, -, -, c4⟩ := hC.op (o := o - 1) (by omega)
    obtain ⟨-, i4, i5, -, -⟩ := hN (spt o i) s18
    unfold f_m_ready_9 ff
    have hlt : (dP D (spt o i) + k) % eP E (o - 1) < eP E (o - 1) := Nat.mod_lt _ (by omega)
    obtain ⟨f, hf⟩ : ∃ f, f = (dP D (spt o i) + k) % eP E (o - 1) := ⟨_, rfl⟩
    simp only [← hf] at hlt ⊢
    have v : vC E (o - 1) f i := ⟨by omega, hlt, by rw [show o - 1 + 1 = o by omega]; exact hs.2⟩
    have hl : lin (o - 1) f i < 45 := by unfold lin; omega
    have e2 := fun M => m_line (o - 1) f i M
    have hq4 := (hI.1 _ _ _ v).1.1
    have k4 := hE.2.2.2.2.2.2.2.2.2.1.2
    have e3 := (hH (lin (o - 1) f i) (by omega)).2.2.1
    obtain ⟨m1', m2⟩ := mask_shr ⟨dS D (spt o i), by omega⟩ ⟨f, by omega⟩
    simp only at m1' m2
    have hb := bit_lt (m := dS D (spt o i)) (f := f)
    rw [m2]
    by_cases hz : bit (dS D (spt o i)) f = 0
    · cases hq : (dC D (lin (o - 1) f i)).1 with
      | nil =>
        rw [hq, List.length_nil] at e3
        simp (disch := omega) only [↓sh.gI, ↓sh.pI, ↓sh.ck, ↓cI_x, ↓cV_x, ↓nmI_t, ↓reduceIte, rmI_t, dvI_t, nI_add, pk_mul, pk_sub, nI_leI, nI_ltI, nI_eq, n_leT, n_leF, n_ltT, n_ltF, n_eqT, n_eqF, u2_ne, u2_at, u2_nj, ↓i_neg1, m1_ne, m1_en, m1_lt, m1_le, m1_nlt, m1_nle, i_lits, true_and, and_true, ↓sh.g6, ↓sh.g43, ↓sh.g44, ↓sh.g51, sh.a497, sh.a520, sh.a521, sh.a528, sh.s497, sh.s520, sh.s521, sh.s528, c4, i5, i4, ← hf, m1', hz, f_m_ready_76, e2, e3, List.isEmpty_nil, Bool.not_true, Bool.false_eq_true, Bool.and_false]
        exact ih
      | cons b q =>
        rw [hq, List.length_cons] at e3
        rw [hq, List.length_cons] at hq4
        simp (disch := omega) only [↓sh.gI, ↓sh.pI, ↓sh.ck, ↓cI_x, ↓cV_x, ↓nmI_t, ↓reduceIte, rmI_t, dvI_t, nI_add, pk_mul, pk_sub, nI_leI, nI_ltI, nI_eq, n_leT, n_leF, n_ltT, n_ltF, n_eqT, n_eqF, u2_ne, u2_at, u2_nj, ↓i_neg1, m1_ne, m1_en, m1_lt, m1_le, m1_nlt, m1_nle, i_lits, true_and, and_true, ↓sh.g6, ↓sh.g43, ↓sh.g44, ↓sh.g51, sh.a497, sh.a520, sh.a521, sh.a528, sh.s497, sh.s520, sh.s521, sh.s528, c4, i5, i4, ← hf, m1', hz, f_m_ready_76, e2, e3, List.isEmpty_cons, Bool.not_false, Bool.and_true, Nat.zero_ne_one, decide_false]
        simp only [Option.map_some, ← hf]
        rfl
    · have hz1 : bit (dS D (spt o i)) f = 1 := by omega
      simp (disch := omega) only [↓sh.gI, ↓sh.pI, ↓sh.ck, ↓cI_x, ↓cV_x, ↓nmI_t, ↓reduceIte, rmI_t, dvI_t, nI_add, pk_mul, pk_sub, nI_leI, nI_ltI, nI_eq, n_leT, n_leF, n_ltT, n_ltF, n_eqT, n_eqF, u2_ne, u2_at, u2_nj, ↓i_neg1, m1_ne, m1_en, m1_lt, m1_le, m1_nlt, m1_nle, i_lits, true_and, and_true, ↓sh.g6, ↓sh.g43, ↓sh.g44, ↓sh.g51, sh.a497, sh.a520, sh.a521, sh.a528, sh.s497, sh.s520, sh.s521, sh.s528, c4, i5, i4, ← hf, m1', hz1, f_m_ready_76, decide_true, Bool.not_true, Bool.false_and, Bool.false_eq_true]
      exact ih
theorem m_ready (sh : shM T) (hE : okE E) (hC : CoM I E) (hH : ChsM I D) (hN : InsM I D) (hI : Inv E D) (h1o : 1 ≤ o) (hs : vS E o i) (hP : dP D (spt o i) < 3) : f_m_ready 492 (nI o) (nI i) ((I, T) : Mem) = some (oI (ready E D o i), ((I, T) : Mem)) := by
  have e1 := fun M => m_spot o i M
  have p3 := hE.p3 (o := o - 1) (by have := hs.1; omega)
  have e3 := readyM_loop (T := T) sh hE hC hH hN hI h1o hs hP (eP E (o - 1)) FU 0 (by omega) (by unfold FU; omega)
  rw [ready_eq]
  unfold f_m_ready
  simp (disch := omega) only [↓sh.gI, ↓sh.pI, ↓sh.ck, ↓cI_x, ↓cV_x, ↓nmI_t, ↓reduceIte, rmI_t, dvI_t, nI_add, pk_mul, pk_sub, nI_leI, nI_ltI, nI_eq, n_leT, n_leF, n_ltT, n_ltF, n_eqT, n_eqF, u2_ne, u2_at, u2_nj, ↓i_neg1, m1_ne, m1_en, m1_lt, m1_le, m1_nlt, m1_nle, i_lits, true_and, and_true, e1, e3]
-- states
theorem KyM_b {p q u : Nat} {f : Nat → Kst} (h : KyM I p q u f) : ∀ x, x < 96 → ∃ m, m < 2 ∧ I p x = nI m := fun x hx => by
  have e := (h (x / 16) ⟨x % 16, Nat.mod_lt _ (by omega)⟩ (by omega)).1
  simp only at e
  rw [show 16 * (x / 16) + x % 16 = x by omega] at e
  exact ⟨_, by unfold b01; split <;> omega, e⟩
theorem KyM_cp {p q u p' q' u' : Nat} {f : Nat → Kst} (h : KyM I p q u f) (g : ∀ x, x < 96 → I' p' x = I p x ∧ I' q' x = I q x ∧ I' u' x = I u x) : KyM I' p' q' u' f := fun o k ho => by
  have hk := k.isLt
  obtain ⟨g1, g2, g3⟩ := g (16 * o + k.val) (by omega)
  rw [g1, g2, g3]
  exact h o k ho
/-- one key's place written anew -/
theorem KyM_set {p q u : Nat} {f : Nat → Kst} (h : KyM I p q u f) (hd : p ≠ q ∧ p ≠ u ∧ q ≠ u) {k : Fin 16} {x : Option (Int32 × Int32)} (ho : o < 6) {w y z : Int32} (h1 : w = nI (b01 x.isSome)) (h2 : ∀ e, x = some e → y = e.1 ∧ z = e.2) : KyM (u2 (u2 (u2 I p (16 * o + k.val) w) q (16 * o + k.val) y) u (16 * o + k.val) z) p q u (upw f o (fun k' => if k' = k then x else f o k')) := by
  obtain ⟨d1, d2, d3⟩ := hd
  intro o' k' ho'
  have hk := k.isLt
  have hk' := k'.isLt
  have e1 : ∀ X : Iw, u2 (u2 (u2 X p (16 * o + k.val) w) q (16 * o + k.val) y) u (16 * o + k.val) z p = u2 X p (16 * o + k.val) w p := fun X => by rw [u2_ne d2, u2_ne d1]
  have e2 : ∀ X : Iw, u2 (u2 (u2 X p (16 * o + k.val) w) q (16 * o + k.val) y) u (16 * o + k.val) z q = u2 X q (16 * o + k.val) y q := fun X => by
    rw [u2_ne d3]
    funext b
    by_cases hz : b = 16 * o + k.val
    · rw [u2_at rfl hz, u2_at rfl hz]
    · rw [u2_nj rfl hz, u2_nj rfl hz, u2_ne (Ne.symm d1)]
  have e3 : ∀ X : Iw, u2 (u2 (u2 X p (16 * o + k.val) w) q (16 * o + k.val) y) u (16 * o + k.val) z u = u2 X u (16 * o + k.val) z u := fun X => by
    funext b
    by_cases hz : b = 16 * o + k.val
    · rw [u2_at rfl hz, u2_at rfl hz]
    · rw [u2_nj rfl hz, u2_nj rfl hz, u2_ne (Ne.symm d3), u2_ne (Ne.symm d2)]
  rw [e1, e2, e3]
  by_cases hz : o' = o ∧ k' = k
  · obtain ⟨rfl, rfl⟩ := hz
    rw [u2_at rfl rfl, u2_at rfl rfl, u2_at rfl rfl, upw_eq]
    simp only [if_true]
    exact ⟨h1, h2⟩
  · have hne : 16 * o' + k'.val ≠ 16 * o + k.val := fun e => hz ⟨by omega, Fin.ext (by omega)⟩
    rw [u2_nj rfl hne, u2_nj rfl hne, u2_nj rfl hne]
    by_cases ho2 : o' = o
    · rw [ho2, upw_eq]
      have hkk : ¬ k' = k := fun e => hz ⟨ho2, e⟩
      simp only [if_neg hkk]
      have := h o' k' ho'
      rw [ho2] at this
      exact this
    · rw [upw_ne ho2]
      exact h o' k' ho'
theorem upw_self {α : Type} {f : Nat → α} {k : Nat} : upw f k (f k) = f := funext fun x => by
  by_cases hz : x = k
  · rw [hz, upw_eq]
  · rw [upw_ne hz]
theorem saves_loop (sh : shM T) (hE : okE E) (ho : o ≤ eN E + 1) (hi3 : i < 3) (hky : kyd (eK E o) = true) : ∀ (d n k : Nat) (I : Iw) (f : Nat → Kst), k + d = 16 → d < n → CoM I E → KyM I 504 507 510 (dK D) → KyM I 505 508 511 f → ∃ I', f_m_saves_2 n 492 (nI o) (nI i) (nI k) ((I, T) : Mem) = f_m_saves_85 492 (nI o) (nI i) ((I', T) : Mem) ∧ (∀ a, a ≠ 505 → a ≠ 508 → a ≠ 511 → I' a = I a) ∧ KyM I' 505 508 511 (upw f o (fun x => if k ≤ x.val ∧ home (eP E o) x = i then dK D o x else f o x))
  | d, 0, k, I, f, _, hn, _, _, _ => by omega
  | 0, n + 1, k, I, f, hk, hn, hC, h1, h2 => by
    refine ⟨I, ?_, fun _ _ _ _ => rfl, ?_⟩
    · unfold f_m_saves_2
      simp (disch := omega) only [↓sh.gI, ↓sh.pI, ↓sh.ck, ↓cI_x, ↓cV_x, ↓nmI_t, ↓reduceIte, rmI_t, dvI_t, nI_add, pk_mul, pk_sub, nI_leI, nI_ltI, nI_eq, n_leT, n_leF, n_ltT, n_ltF, n_eqT, n_eqF, u2_ne, u2_at, u2_nj, ↓i_neg1, m1_ne, m1_en, m1_lt, m1_le, m1_nlt, m1_nle, i_lits, true_and, and_true, ↓sh.g24, ↓sh.g25, ↓sh.g27, ↓sh.g28, ↓sh.g30, ↓sh.g31, sh.a504, sh.a505, sh.a507, sh.a508, sh.a510, sh.a511, sh.s504, sh.s505, sh.s507, sh.s508, sh.s510, sh.s511]
    · have : (fun x : Fin 16 => if k ≤ x.val ∧ home (eP E o) x = i then dK D o x else f o x) = f o := funext fun x => if_neg (fun z => by have := x.isLt; omega)
      rw [this, upw_self]
      exact h2
  | d + 1, n + 1, k, I, f, hk, hn, hC, h1, h2 => by
    have n4 := hE.1
    have p3 := hE.p3 ho
    obtain ⟨c1, -, -, c4⟩ := hC.op ho
    have e1 := m_isKeyed (T := T) sh (by omega) c1 (kind_le hE ho)
    rw [hky] at e1
    have e2 := m_home (T := T) sh (by omega) c4 p3 ⟨k, by omega⟩
    have e2' : f_m_home 492 (nI o) (nI k) ((I, T) : Mem) = some (nI (home (eP E o) ⟨k, by omega⟩), ((I, T) : Mem)) := e2
    obtain ⟨q1, q2⟩ := h1 o ⟨k, by omega⟩ (by omega)
    simp only at q1 q2
    have hhome := home_lt (k := ⟨k, by omega⟩) (hE.p1 ho) p3
    obtain ⟨m, hm⟩ : ∃ m, m = b01 (dK D o ⟨k, by omega⟩).isSome := ⟨_, rfl⟩
    have hm2 : m < 2 := by rw [hm]; unfold b01; split <;> omega
    rw [← hm] at q1
    by_cases hz : home (eP E o) ⟨k, by omega⟩ = i
    · have hs := KyM_set (I := I) (f := f) (p := 505) (q := 508) (u := 511) (o := o) (k := ⟨k, by omega⟩) (x := dK D o ⟨k, by omega⟩) h2 (by omega) (by omega) (w := nI m) (y := I 507 (16 * o + k)) (z := I 510 (16 * o + k)) (by rw [hm]) q2
      simp only at hs
      obtain ⟨I1, hI1⟩ : ∃ I1, I1 = u2 (u2 (u2 I 505 (16 * o + k) (nI m)) 508 (16 * o + k) (I 507 (16 * o + k))) 511 (16 * o + k) (I 510 (16 * o + k)) := ⟨_, rfl⟩
      rw [← hI1] at hs
      have f0 : ∀ a, a ≠ 505 → a ≠ 508 → a ≠ 511 → I1 a = I a := fun a g1 g2 g3 => by rw [hI1, u2_ne g3, u2_ne g2, u2_ne g1]
      obtain ⟨I2, e3, f1, r1⟩ := saves_loop sh hE ho hi3 hky d n (k + 1) I1 _ (by omega) (by omega) (CoM_cg hC ⟨fun a _ _ => f0 a (by omega) (by omega) (by omega), fun j _ => by rw [f0 492 (by omega) (by omega) (by omega)]⟩) (KyM_cg h1 (f0 504 (by omega) (by omega) (by omega)) (f0 507 (by omega) (by omega) (by omega)) (f0 510 (by omega) (by omega) (by omega))) hs
      refine ⟨I2, ?_, fun a g1 g2 g3 => (f1 a g1 g2 g3).trans (f0 a g1 g2 g3), ?_⟩
      · unfold f_m_saves_2
        simp (disch := omega) only [↓sh.gI, ↓sh.pI, ↓sh.ck, ↓cI_x, ↓cV_x, ↓nmI_t, ↓reduceIte, rmI_t, dvI_t, nI_add, pk_mul, pk_sub, nI_leI, nI_ltI, nI_eq, n_leT, n_leF, n_ltT, n_ltF, n_eqT, n_eqF, u2_ne, u2_at, u2_nj, ↓i_neg1, m1_ne, m1_en, m1_lt, m1_le, m1_nlt, m1_nle, i_lits, true_and, and_true, ↓sh.g24, ↓sh.g25, ↓sh.g27, ↓sh.g28, ↓sh.g30, ↓sh.g31, sh.a504, sh.a505, sh.a507, sh.a508, sh.a510, sh.a511, sh.s504, sh.s505, sh.s507, sh.s508, sh.s510, sh.s511, f_m_saves_79, e1, b01, e2', hz, q1, ← hI1, e3]
      · have e4 : upw (upw f o (fun k' => if k' = ⟨k, by omega⟩ then dK D o ⟨k, by omega⟩ else f o k')) o (fun x => if k + 1 ≤ x.val ∧ home (eP E o) x = i then dK D o x else upw f o (fun k' => if k' = ⟨k, by omega⟩ then dK D o ⟨k, by omega⟩ else f o k') o x) = upw f o (fun x => if k ≤ x.val ∧ home (eP E o) x = i then dK D o x else f o x) := by
          rw [upw_upw, upw_eq]
          congr 1
          funext x
          by_cases hx : x = ⟨k, by omega⟩
          · subst hx
            rw [if_neg (by simp only; omega), if_pos rfl, if_pos ⟨Nat.le_refl _, hz⟩]
          · have hxv : x.val ≠ k := fun e => hx (Fin.ext e)
            by_cases hy : k + 1 ≤ x.val ∧ home (eP E o) x = i
            · rw [if_pos hy, if_pos ⟨by omega, hy.2⟩]
            · rw [if_neg hy, if_neg hx, if_neg (fun z => hy ⟨by omega, z.2⟩)]
        rw [e4] at r1
        exact r1
    · obtain ⟨I2, e3, f1, r1⟩ := saves_loop sh hE ho hi3 hky d n (k + 1) I f (by omega) (by omega) hC h1 h2
      refine ⟨I2, ?_, f1, ?_⟩
      · unfold f_m_saves_2
        simp (disch := omega) only [↓sh.gI, ↓sh.pI, ↓sh.ck, ↓cI_x, ↓cV_x, ↓nmI_t, ↓reduceIte, rmI_t, dvI_t, nI_add, pk_mul, pk_sub, nI_leI, nI_ltI, nI_eq, n_leT, n_leF, n_ltT, n_ltF, n_eqT, n_eqF, u2_ne, u2_at, u2_nj, ↓i_neg1, m1_ne, m1_en, m1_lt, m1_le, m1_nlt, m1_nle, i_lits, true_and, and_true, ↓sh.g24, ↓sh.g25, ↓sh.g27, ↓sh.g28, ↓sh.g30, ↓sh.g31, sh.a504, sh.a505, sh.a507, sh.a508, sh.a510, sh.a511, sh.s504, sh.s505, sh.s507, sh.s508, sh.s510, sh.s511, f_m_saves_79, e1, b01, e2', hz, e3]
      · have e4 : (fun x : Fin 16 => if k + 1 ≤ x.val ∧ home (eP E o) x = i then dK D o x else f o x) = fun x : Fin 16 => if k ≤ x.val ∧ home (eP E o) x = i then dK D o x else f o x := by
          funext x
          by_cases hx : x = ⟨k, by omega⟩
          · subst hx
            rw [if_neg (fun z => hz z.2), if_neg (fun z => hz z.2)]
          · have hxv : x.val ≠ k := fun e => hx (Fin.ext e)
            by_cases hy : k + 1 ≤ x.val ∧ home (eP E o) x = i
            · rw [if_pos hy, if_pos ⟨by omega, hy.2⟩]
            · rw [if_neg hy, if_neg (fun z => hy ⟨by omega, z.2⟩)]
        rw [e4] at r1
        exact r1
end
