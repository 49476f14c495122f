/-! THE REFERENCE: channels -/
def BtM (I : Iw) (c x off : Nat) : Bt → Prop
  | none => I 530 (4 * c + x) = m1 ∧ off = 0
  | some l => I 530 (4 * c + x) = nI (off + l.length) ∧ off + l.length ≤ 4 ∧ ∀ j (h : j < l.length), I 531 (16 * c + 4 * x + off + j) = kv l[j].1 ∧ I 532 (16 * c + 4 * x + off + j) = l[j].2.1 ∧ I 533 (16 * c + 4 * x + off + j) = nI l[j].2.2
def QuM (I : Iw) (c t : Nat) (q : List Bt) : Prop := (q = [] → t = 0) ∧ ∀ x (h : x < q.length), BtM I c x (if x = 0 then t else 0) q[x]
def OpM (I : Iw) (c : Nat) (l : List Rec) : Prop := ∀ j (h : j < l.length), I 525 (4 * c + j) = kv l[j].1 ∧ I 526 (4 * c + j) = l[j].2.1 ∧ I 527 (4 * c + j) = nI l[j].2.2
def ChM (I : Iw) (c : Nat) (h : Ch) : Prop := I 523 c = nI h.2.1.length ∧ I 524 c = nI h.2.2 ∧ I 528 c = nI h.1.length ∧ OpM I c h.2.1 ∧ ∃ t, t ≤ 4 ∧ I 529 c = nI t ∧ QuM I c t h.1
/-- only the rows of channel c have changed -/
def FrC (c : Nat) (I I' : Iw) : Prop := (∀ a, (a < 523 ∨ 533 < a) → I' a = I a) ∧ (∀ x, x ≠ c → I' 523 x = I 523 x ∧ I' 524 x = I 524 x ∧ I' 528 x = I 528 x ∧ I' 529 x = I 529 x) ∧ (∀ x, (x < 4 * c ∨ 4 * c + 4 ≤ x) → I' 525 x = I 525 x ∧ I' 526 x = I 526 x ∧ I' 527 x = I 527 x ∧ I' 530 x = I 530 x) ∧ ∀ x, (x < 16 * c ∨ 16 * c + 16 ≤ x) → I' 531 x = I 531 x ∧ I' 532 x = I 532 x ∧ I' 533 x = I 533 x
theorem FrC_rf {c : Nat} {I : Iw} : FrC c I I := ⟨fun _ _ => rfl, fun _ _ => ⟨rfl, rfl, rfl, rfl⟩, fun _ _ => ⟨rfl, rfl, rfl, rfl⟩, fun _ _ => ⟨rfl, rfl, rfl⟩⟩
theorem FrC_tr {c : Nat} {I I1 I2 : Iw} (h1 : FrC c I I1) (h2 : FrC c I1 I2) : FrC c I I2 := by
  obtain ⟨a1, a2, a3, a4⟩ := h1
  obtain ⟨b1, b2, b3, b4⟩ := h2
  refine ⟨fun a h => (b1 a h).trans (a1 a h), fun x h => ?_, fun x h => ?_, fun x h => ?_⟩
  · obtain ⟨p1, p2, p3, p4⟩ := a2 x h
    obtain ⟨q1, q2, q3, q4⟩ := b2 x h
    exact ⟨q1.trans p1, q2.trans p2, q3.trans p3, q4.trans p4⟩
  · obtain ⟨p1, p2, p3, p4⟩ := a3 x h
    obtain ⟨q1, q2, q3, q4⟩ := b3 x h
    exact ⟨q1.trans p1, q2.trans p2, q3.trans p3, q4.trans p4⟩
  · obtain ⟨p1, p2, p3⟩ := a4 x h
    obtain ⟨q1, q2, q3⟩ := b4 x h
    exact ⟨q1.trans p1, q2.trans p2, q3.trans p3⟩
section
variable {T : Tl} {I : Iw} {c s g cr : Nat} {h : Ch}
theorem ChM_cg {I' : Iw} {c' : Nat} (hh : ChM I c' h) (f : FrC c I I') (hne : c' ≠ c) (hl : h.1.length ≤ 4) (ho : h.2.1.length ≤ 4) : ChM I' c' h := by
  obtain ⟨h1, h2, h3, h4, t, t4, h5, h6, h7⟩ := hh
  obtain ⟨f1, f2, f3, f4⟩ := f
  obtain ⟨e1, e2, e3, e4⟩ := f2 c' hne
  refine ⟨e1.trans h1, e2.trans h2, e3.trans h3, fun j hj => ?_, t, t4, e4.trans h5, h6, fun x hx => ?_⟩
  · obtain ⟨p1, p2, p3, -⟩ := f3 (4 * c' + j) (by omega)
    rw [p1, p2, p3]
    exact h4 j hj
  · have hb := h7 x hx
    obtain ⟨-, -, -, p4⟩ := f3 (4 * c' + x) (by omega)
    cases hq : h.1[x] with
    | none =>
      rw [hq] at hb
      exact ⟨p4.trans hb.1, hb.2⟩
    | some l =>
      rw [hq] at hb
      obtain ⟨b1, b2, b3⟩ := hb
      refine ⟨p4.trans b1, b2, fun j hj => ?_⟩
      obtain ⟨q1, q2, q3⟩ := f4 (16 * c' + 4 * x + (if x = 0 then t else 0) + j) (by omega)
      rw [q1, q2, q3]
      exact b3 j hj
theorem m_takesRecord (sh : shM T) (h7 : I 492 7 = nI s) (h9 : I 492 9 = nI cr) (hh : ChM I c h) (hc : c < 54) (hs : s ≤ 4) (hcr : cr ≤ 4) (hok : chOK s cr h) : f_m_takesRecord 492 (nI c) ((I, T) : Mem) = some (nI (b01 (tkR s cr h)), ((I, T) : Mem)) := by
  obtain ⟨h1, h2, h3, -⟩ := hh
  have q4 := hok.1
  have o4 := hok.2.1
  unfold f_m_takesRecord
  simp (disch := omega) only [↓sh.gI, ↓sh.pI, ↓sh.ck, ↓cI_s, ↓cV_s, ↓nmI_t, ↓reduceIte, rmI_t, dvI_t, nI_add, pk_mul, pk_sub, nI_leI, nI_ltI, nI_eq, n_leT, n_leF, n_ltT, n_ltF, n_eqT, n_eqF, u2_ne, u2_at, u2_nj, ↓i_neg1, m1_ne, m1_en, m1_lt, m1_le, m1_nlt, m1_nle, i_lits, true_and, and_true, ↓sh.g46, ↓sh.g51, sh.a523, sh.a528, sh.s523, sh.s528, h7, h9, h1, h3]
  by_cases z : h.2.1.length < s
  · simp (disch := omega) only [↓sh.gI, ↓sh.pI, ↓sh.ck, ↓cI_s, ↓cV_s, ↓nmI_t, ↓reduceIte, rmI_t, dvI_t, nI_add, pk_mul, pk_sub, nI_leI, nI_ltI, nI_eq, n_leT, n_leF, n_ltT, n_ltF, n_eqT, n_eqF, u2_ne, u2_at, u2_nj, ↓i_neg1, m1_ne, m1_en, m1_lt, m1_le, m1_nlt, m1_nle, i_lits, true_and, and_true, ↓sh.g46, ↓sh.g51, sh.a523, sh.a528, sh.s523, sh.s528]
    simp [b01, tkR, z]
  · by_cases y : h.1.length < cr
    · simp (disch := omega) only [↓sh.gI, ↓sh.pI, ↓sh.ck, ↓cI_s, ↓cV_s, ↓nmI_t, ↓reduceIte, rmI_t, dvI_t, nI_add, pk_mul, pk_sub, nI_leI, nI_ltI, nI_eq, n_leT, n_leF, n_ltT, n_ltF, n_eqT, n_eqF, u2_ne, u2_at, u2_nj, ↓i_neg1, m1_ne, m1_en, m1_lt, m1_le, m1_nlt, m1_nle, i_lits, true_and, and_true, ↓sh.g46, ↓sh.g51, sh.a523, sh.a528, sh.s523, sh.s528]
      simp [b01, tkR, z, y]
    · simp (disch := omega) only [↓sh.gI, ↓sh.pI, ↓sh.ck, ↓cI_s, ↓cV_s, ↓nmI_t, ↓reduceIte, rmI_t, dvI_t, nI_add, pk_mul, pk_sub, nI_leI, nI_ltI, nI_eq, n_leT, n_leF, n_ltT, n_ltF, n_eqT, n_eqF, u2_ne, u2_at, u2_nj, ↓i_neg1, m1_ne, m1_en, m1_lt, m1_le, m1_nlt, m1_nle, i_lits, true_and, and_true, ↓sh.g46, ↓sh.g51, sh.a523, sh.a528, sh.s523, sh.s528]
      simp [b01, tkR, z, y]
theorem m_takesBarrier (sh : shM T) (h9 : I 492 9 = nI cr) (hh : ChM I c h) (hc : c < 54) (hs : s ≤ 4) (hcr : cr ≤ 4) (hok : chOK s cr h) : f_m_takesBarrier 492 (nI c) ((I, T) : Mem) = some (nI (b01 (tkB cr h)), ((I, T) : Mem)) := by
  obtain ⟨h1, h2, h3, -⟩ := hh
  have q4 := hok.1
  have o4 := hok.2.1
  unfold f_m_takesBarrier f_m_takesBarrier_20
  simp (disch := omega) only [↓sh.gI, ↓sh.pI, ↓sh.ck, ↓cI_s, ↓cV_s, ↓nmI_t, ↓reduceIte, rmI_t, dvI_t, nI_add, pk_mul, pk_sub, nI_leI, nI_ltI, nI_eq, n_leT, n_leF, n_ltT, n_ltF, n_eqT, n_eqF, u2_ne, u2_at, u2_nj, ↓i_neg1, m1_ne, m1_en, m1_lt, m1_le, m1_nlt, m1_nle, i_lits, true_and, and_true, ↓sh.g46, ↓sh.g51, sh.a523, sh.a528, sh.s523, sh.s528, h9, h1, h3]
  by_cases z : h.2.1 = []
  · rw [if_pos (by rw [z]; simp)]
    by_cases y : h.1.length < cr
    · simp (disch := omega) only [↓sh.gI, ↓sh.pI, ↓sh.ck, ↓cI_s, ↓cV_s, ↓nmI_t, ↓reduceIte, rmI_t, dvI_t, nI_add, pk_mul, pk_sub, nI_leI, nI_ltI, nI_eq, n_leT, n_leF, n_ltT, n_ltF, n_eqT, n_eqF, u2_ne, u2_at, u2_nj, ↓i_neg1, m1_ne, m1_en, m1_lt, m1_le, m1_nlt, m1_nle, i_lits, true_and, and_true, ↓sh.g46, ↓sh.g51, sh.a523, sh.a528, sh.s523, sh.s528]
      simp [b01, tkB, z, y]
    · simp (disch := omega) only [↓sh.gI, ↓sh.pI, ↓sh.ck, ↓cI_s, ↓cV_s, ↓nmI_t, ↓reduceIte, rmI_t, dvI_t, nI_add, pk_mul, pk_sub, nI_leI, nI_ltI, nI_eq, n_leT, n_leF, n_ltT, n_ltF, n_eqT, n_eqF, u2_ne, u2_at, u2_nj, ↓i_neg1, m1_ne, m1_en, m1_lt, m1_le, m1_nlt, m1_nle, i_lits, true_and, and_true, ↓sh.g46, ↓sh.g51, sh.a523, sh.a528, sh.s523, sh.s528]
      simp [b01, tkB, z, y]
  · have zl : 0 < h.2.1.length := List.length_pos_iff.mpr z
    rw [if_neg (by omega)]
    by_cases y : h.1.length + 1 < cr
    · simp (disch := omega) only [↓sh.gI, ↓sh.pI, ↓sh.ck, ↓cI_s, ↓cV_s, ↓nmI_t, ↓reduceIte, rmI_t, dvI_t, nI_add, pk_mul, pk_sub, nI_leI, nI_ltI, nI_eq, n_leT, n_leF, n_ltT, n_ltF, n_eqT, n_eqF, u2_ne, u2_at, u2_nj, ↓i_neg1, m1_ne, m1_en, m1_lt, m1_le, m1_nlt, m1_nle, i_lits, true_and, and_true, ↓sh.g46, ↓sh.g51, sh.a523, sh.a528, sh.s523, sh.s528]
      simp [b01, tkB, z, y]
    · simp (disch := omega) only [↓sh.gI, ↓sh.pI, ↓sh.ck, ↓cI_s, ↓cV_s, ↓nmI_t, ↓reduceIte, rmI_t, dvI_t, nI_add, pk_mul, pk_sub, nI_leI, nI_ltI, nI_eq, n_leT, n_leF, n_ltT, n_ltF, n_eqT, n_eqF, u2_ne, u2_at, u2_nj, ↓i_neg1, m1_ne, m1_en, m1_lt, m1_le, m1_nlt, m1_nle, i_lits, true_and, and_true, ↓sh.g46, ↓sh.g51, sh.a523, sh.a528, sh.s523, sh.s528]
      simp [b01, tkB, z, y]
/-- the batch that is filled is copied behind the queue -/
theorem closes_loop (sh : shM T) (hc : c < 54) (n0 : Nat) (hn0 : n0 < 4) (l : List Rec) (hl : l.length ≤ 4) : ∀ (d n k : Nat) (I : Iw), k + d = l.length → d < n → I 523 c = nI l.length → OpM I c l → I 528 c = nI n0 → (∀ j (hj : j < l.length), j < k → I 531 (4 * (4 * c + n0) + j) = kv l[j].1 ∧ I 532 (4 * (4 * c + n0) + j) = l[j].2.1 ∧ I 533 (4 * (4 * c + n0) + j) = nI l[j].2.2) → ∃ I', f_m_closes_25 n 492 (nI c) (nI (4 * c + n0)) (nI k) ((I, T) : Mem) = some ((u2 (u2 (u2 I' 528 c (nI (n0 + 1))) 523 c (nI 0)) 524 c (nI 0), T) : Mem) ∧ (∀ a, (a < 531 ∨ 533 < a) → I' a = I a) ∧ (∀ x, (x < 4 * (4 * c + n0) ∨ 4 * (4 * c + n0) + 4 ≤ x) → I' 531 x = I 531 x ∧ I' 532 x = I 532 x ∧ I' 533 x = I 533 x) ∧ ∀ j (hj : j < l.length), I' 531 (4 * (4 * c + n0) + j) = kv l[j].1 ∧ I' 532 (4 * (4 * c + n0) + j) = l[j].2.1 ∧ I' 533 (4 * (4 * c + n0) + j) = nI l[j].2.2
  | d, 0, k, I, _, hn, _, _, _, _ => by omega
  | 0, n + 1, k, I, hk, hn, h1, h4, h3, hd => by
    refine ⟨I, ?_, fun _ _ => rfl, fun _ _ => ⟨rfl, rfl, rfl⟩, fun j hj => hd j hj (by omega)⟩
    unfold f_m_closes_25
    simp (disch := omega) only [↓sh.gI, ↓sh.pI, ↓sh.ck, ↓cI_s, ↓cV_s, ↓nmI_t, ↓reduceIte, rmI_t, dvI_t, nI_add, pk_mul, pk_sub, nI_leI, nI_ltI, nI_eq, n_leT, n_leF, n_ltT, n_ltF, n_eqT, n_eqF, u2_ne, u2_at, u2_nj, ↓i_neg1, m1_ne, m1_en, m1_lt, m1_le, m1_nlt, m1_nle, i_lits, true_and, and_true, ↓sh.g46, ↓sh.g47, ↓sh.g48, ↓sh.g49, ↓sh.g50, ↓sh.g51, ↓sh.g54, ↓sh.g55, ↓sh.g56, sh.a523, sh.a524, sh.a525, sh.a526, sh.a527, sh.a528, sh.a531, sh.a532, sh.a533, sh.s523, sh.s524, sh.s525, sh.s526, sh.s527, sh.s528, sh.s531, sh.s532, sh.s533, h1, h3]
  | d + 1, n + 1, k, I, hk, hn, h1, h4, h3, hd => by
    have hkl : k < l.length := by omega
    obtain ⟨p1, p2, p3⟩ := h4 k hkl
    obtain ⟨I1, hI1⟩ : ∃ I1, I1 = u2 (u2 (u2 I 531 (4 * (4 * c + n0) + k) (kv l[k].1)) 532 (4 * (4 * c + n0) + k) l[k].2.1) 533 (4 * (4 * c + n0) + k) (nI l[k].2.2) := ⟨_, rfl⟩
    have f0 : ∀ a, (a < 531 ∨ 533 < a) → I1 a = I a := fun a ha => by rw [hI1, u2_ne (by omega), u2_ne (by omega), u2_ne (by omega)]
    have f1 : ∀ x, x ≠ 4 * (4 * c + n0) + k → I1 531 x = I 531 x ∧ I1 532 x = I 532 x ∧ I1 533 x = I 533 x := fun x hx => by
      rw [hI1]
      refine ⟨?_, ?_, ?_⟩ <;> simp (disch := omega) only [u2_ne, u2_nj]
    have f2 : I1 531 (4 * (4 * c + n0) + k) = kv l[k].1 ∧ I1 532 (4 * (4 * c + n0) + k) = l[k].2.1 ∧ I1 533 (4 * (4 * c + n0) + k) = nI l[k].2.2 := by
      rw [hI1]
      refine ⟨?_, ?_, ?_⟩ <;> simp (disch := omega) only [u2_ne, u2_at]
    obtain ⟨I2, e, q1, q2, q3⟩ := closes_loop sh hc n0 hn0 l hl d n (k + 1) I1 (by omega) (by omega) (by rw [f0 523 (by omega)]; exact h1) (fun j hj => by rw [f0 525 (by omega), f0 526 (by omega), f0 527 (by omega)]; exact h4 j hj) (by rw [f0 528 (by omega)]; exact h3) (fun j hj hjk => by
      by_cases hz : j = k
      · subst hz; exact f2
      · obtain ⟨r1, r2, r3⟩ := f1 (4 * (4 * c + n0) + j) (by omega)
        rw [r1, r2, r3]
        exact hd j hj (by omega))
    refine ⟨I2, ?_, fun a ha => (q1 a ha).trans (f0 a ha), fun x hx => ?_, q3⟩
    · unfold f_m_closes_25
      simp (disch := omega) only [↓sh.gI, ↓sh.pI, ↓sh.ck, ↓cI_s, ↓cV_s, ↓nmI_t, ↓reduceIte, rmI_t, dvI_t, nI_add, pk_mul, pk_sub, nI_leI, nI_ltI, nI_eq, n_leT, n_leF, n_ltT, n_ltF, n_eqT, n_eqF, u2_ne, u2_at, u2_nj, ↓i_neg1, m1_ne, m1_en, m1_lt, m1_le, m1_nlt, m1_nle, i_lits, true_and, and_true, ↓sh.g46, ↓sh.g47, ↓sh.g48, ↓sh.g49, ↓sh.g50, ↓sh.g51, ↓sh.g54, ↓sh.g55, ↓sh.g56, sh.a523, sh.a524, sh.a525, sh.a526, sh.a527, sh.a528, sh.a531, sh.a532, sh.a533, sh.s523, sh.s524, sh.s525, sh.s526, sh.s527, sh.s528, sh.s531, sh.s532, sh.s533, h1, p1, p2, p3, ← hI1, e]
    · obtain ⟨r1, r2, r3⟩ := q2 x hx
      obtain ⟨s1, s2, s3⟩ := f1 x (by omega)
      exact ⟨r1.trans s1, r2.trans s2, r3.trans s3⟩
theorem m_closes (sh : shM T) (hh : ChM I c h) (hc : c < 54) (hq : h.1.length < 4) (ho : h.2.1.length ≤ 4) : ∃ I', f_m_closes 492 (nI c) ((I, T) : Mem) = some ((I', T) : Mem) ∧ FrC c I I' ∧ ChM I' c (clo1 h) := by
  obtain ⟨h1, h2, h3, h4, t, t4, h5, h6, h7⟩ := hh
  obtain ⟨I1, hI1⟩ : ∃ I1, I1 = u2 I 530 (4 * c + h.1.length) (nI h.2.1.length) := ⟨_, rfl⟩
  have f0 : ∀ a, a ≠ 530 → I1 a = I a := fun a ha => by rw [hI1, u2_ne ha]
  obtain ⟨I2, e, q1, q2, q3⟩ := closes_loop sh hc h.1.length hq h.2.1 ho h.2.1.length FU 0 I1 (by omega) (by unfold FU; omega) (by rw [f0 523 (by omega)]; exact h1) (fun j hj => by rw [f0 525 (by omega), f0 526 (by omega), f0 527 (by omega)]; exact h4 j hj) (by rw [f0 528 (by omega)]; exact h3) (fun j hj hjk => by omega)
  have g0 : ∀ a, a < 530 → I2 a = I a := fun a ha => (q1 a (by omega)).trans (f0 a (by omega))
  have g1 : ∀ x, x ≠ 4 * c + h.1.length → I2 530 x = I 530 x := fun x hx => by rw [q1 530 (by omega), hI1, u2_nj rfl hx]
  have g2 : I2 530 (4 * c + h.1.length) = nI h.2.1.length := by rw [q1 530 (by omega), hI1]; exact u2_at rfl rfl
  have g3 : ∀ x, (x < 4 * (4 * c + h.1.length) ∨ 4 * (4 * c + h.1.length) + 4 ≤ x) → I2 531 x = I 531 x ∧ I2 532 x = I 532 x ∧ I2 533 x = I 533 x := fun x hx => by
    obtain ⟨r1, r2, r3⟩ := q2 x hx
    rw [r1, r2, r3, f0 531 (by omega), f0 532 (by omega), f0 533 (by omega)]
    exact ⟨rfl, rfl, rfl⟩
  refine ⟨u2 (u2 (u2 I2 528 c (nI (h.1.length + 1))) 523 c (nI 0)) 524 c (nI 0), ?_, ⟨fun a ha => ?_, fun x hx => ?_, fun x hx => ?_, fun x hx => ?_⟩, ?_, ?_, ?_, ?_, t, t4, ?_, ?_, fun x hx => ?_⟩
  · unfold f_m_closes
    simp (disch := omega) only [↓sh.gI, ↓sh.pI, ↓sh.ck, ↓cI_s, ↓cV_s, ↓nmI_t, ↓reduceIte, rmI_t, dvI_t, nI_add, pk_mul, pk_sub, nI_leI, nI_ltI, nI_eq, n_leT, n_leF, n_ltT, n_ltF, n_eqT, n_eqF, u2_ne, u2_at, u2_nj, ↓i_neg1, m1_ne, m1_en, m1_lt, m1_le, m1_nlt, m1_nle, i_lits, true_and, and_true, ↓sh.g46, ↓sh.g51, ↓sh.g53, sh.a523, sh.a528, sh.a530, sh.s523, sh.s528, sh.s530, h3, h1, ← hI1, e]
  · rw [u2_ne (by omega), u2_ne (by omega), u2_ne (by omega), q1 a (by omega), f0 a (by omega)]
  · refine ⟨?_, ?_, ?_, ?_⟩ <;> simp (disch := omega) only [u2_ne, u2_nj, g0]
  · refine ⟨?_, ?_, ?_, ?_⟩ <;> simp (disch := omega) only [u2_ne, g0, g1]
  · obtain ⟨r1, r2, r3⟩ := g3 x (by omega)
    refine ⟨?_, ?_, ?_⟩ <;> simp (disch := omega) only [u2_ne, r1, r2, r3]
  · simp (disch := omega) only [u2_ne, u2_at, clo1, List.length_nil]
  · simp (disch := omega) only [u2_at, clo1]
  · simp (disch := omega) only [u2_ne, u2_at, clo1, List.length_append, List.length_cons, List.length_nil, Nat.zero_add]
  · exact fun j hj => by simp [clo1] at hj
  · simp (disch := omega) only [u2_ne, g0]
    exact h5
  · intro hz
    simp [clo1] at hz
  · simp only [clo1, List.length_append, List.length_cons, List.length_nil] at hx ⊢
    by_cases hx2 : x < h.1.length
    · rw [List.getElem_append_left hx2]
      have hb := h7 x hx2
      cases hq' : h.1[x] with
      | none =>
        rw [hq'] at hb
        exact ⟨by simp (disch := omega) only [u2_ne, g1]; exact hb.1, hb.2⟩
      | some l =>
        rw [hq'] at hb
        obtain ⟨b1, b2, b3⟩ := hb
        refine ⟨by simp (disch := omega) only [u2_ne, g1]; exact b1, b2, fun j hj => ?_⟩
        obtain ⟨r1, r2, r3⟩ := g3 (16 * c + 4 * x + (if x = 0 then t else 0) + j) (by omega)
        simp (disch := omega) only [u2_ne, r1, r2, r3]
        exact b3 j hj
    · have hx3 : x = h.1.length := by omega
      subst hx3
      have ht : (if h.1.length = 0 then t else 0) = 0 := by
        by_cases hz : h.1.length = 0
        · rw [if_pos hz]; exact h6 (List.length_eq_zero_iff.mp hz)
        · rw [if_neg hz]
      rw [List.getElem_append_right (Nat.le_refl _), ht]
      simp only [Nat.sub_self, List.getElem_cons_zero]
      refine ⟨?_, by omega, fun j hj => ?_⟩
      · simp (disch := omega) only [u2_ne, g2, Nat.zero_add]
      · obtain ⟨r1, r2, r3⟩ := q3 j hj
        have e1 : 16 * c + 4 * h.1.length + 0 + j = 4 * (4 * c + h.1.length) + j := by omega
        simp (disch := omega) only [u2_ne, e1, r1, r2, r3]
        exact ⟨trivial, trivial, trivial⟩
theorem m_puts18 (sh : shM T) (h7 : I 492 7 = nI s) (h9 : I 492 9 = nI cr) (hh : ChM I c h) (hc : c < 54) (hs : s ≤ 4) (hcr : cr ≤ 4) (hok : chOK s cr h) (ho : h.2.1.length < s) (r : Rec) : ∃ I', f_m_puts_18 492 (nI c) (kv r.1) r.2.1 (nI r.2.2) ((I, T) : Mem) = some ((I', T) : Mem) ∧ FrC c I I' ∧ ChM I' c (if s ≤ (putR1 h r).2.1.length ∧ (putR1 h r).1.length < cr then clo1 (putR1 h r) else putR1 h r) := by
  obtain ⟨h1, h2, h3, h4, t, t4, h5, h6, h7'⟩ := hh
  have q4 := hok.1
  obtain ⟨I1, hI1⟩ : ∃ I1, I1 = u2 (u2 (u2 (u2 I 525 (4 * c + h.2.1.length) (kv r.1)) 526 (4 * c + h.2.1.length) r.2.1) 527 (4 * c + h.2.1.length) (nI r.2.2)) 523 c (nI (h.2.1.length + 1)) := ⟨_, rfl⟩
  have f0 : ∀ a, (a < 523 ∨ a = 524 ∨ 527 < a) → I1 a = I a := fun a ha => by rw [hI1, u2_ne (by omega), u2_ne (by omega), u2_ne (by omega), u2_ne (by omega)]
  have f1 : FrC c I I1 := by
    refine ⟨fun a ha => f0 a (by omega), fun x hx => ?_, fun x hx => ?_, fun x hx => ?_⟩ <;> rw [hI1]
    · refine ⟨?_, ?_, ?_, ?_⟩ <;> simp (disch := omega) only [u2_ne, u2_nj]
    · refine ⟨?_, ?_, ?_, ?_⟩ <;> simp (disch := omega) only [u2_ne, u2_nj]
    · refine ⟨?_, ?_, ?_⟩ <;> simp (disch := omega) only [u2_ne, u2_nj]
  have hp5 : (putR1 h r).2.1.length = h.2.1.length + 1 := by simp [putR1]
  have hop : OpM I1 c (h.2.1 ++ [r]) := fun j hj => by
    have hj' : j < h.2.1.length + 1 := by simpa using hj
    rw [hI1]
    by_cases hz : j < h.2.1.length
    · rw [List.getElem_append_left hz]
      obtain ⟨p1, p2, p3⟩ := h4 j hz
      simp (disch := omega) only [u2_ne, u2_nj, p1, p2, p3]
      exact ⟨trivial, trivial, trivial⟩
    · have : j = h.2.1.length := by omega
      subst this
      rw [List.getElem_append_right (Nat.le_refl _)]
      simp only [Nat.sub_self, List.getElem_cons_zero]
      simp (disch := omega) only [u2_ne, u2_at]
      exact ⟨trivial, trivial, trivial⟩
  have hk : ChM I1 c (putR1 h r) := by
    refine ⟨?_, by rw [f0 524 (by omega)]; exact h2, by rw [f0 528 (by omega)]; exact h3, hop, t, t4, by rw [f0 529 (by omega)]; exact h5, h6, fun x hx => ?_⟩
    · rw [hp5, hI1]; exact u2_at rfl rfl
    · have hb := h7' x hx
      show BtM I1 c x _ h.1[x]
      unfold BtM at hb ⊢
      rw [f0 530 (by omega), f0 531 (by omega), f0 532 (by omega), f0 533 (by omega)]
      exact hb
  have e7 : I1 492 7 = nI s := by rw [f0 492 (by omega)]; exact h7
  have e9 : I1 492 9 = nI cr := by rw [f0 492 (by omega)]; exact h9
  have e1 := hk.1
  have e3 := hk.2.2.1
  rw [hp5] at e1
  have e3' : I1 528 c = nI h.1.length := e3
  have hpre : f_m_puts_18 492 (nI c) (kv r.1) r.2.1 (nI r.2.2) ((I, T) : Mem) = (if nI (h.2.1.length + 1) = nI s then (if nI cr ≤ nI h.1.length then (some ((I1, T) : Mem)) else cV (f_m_closes 492 (nI c) ((I1, T) : Mem)) fun M22 => some M22) else some ((I1, T) : Mem)) := by
    unfold f_m_puts_18
    simp (disch := omega) only [↓sh.gI, ↓sh.pI, ↓sh.ck, ↓sh.g48, ↓sh.g46, ↓sh.g49, ↓sh.g50, ↓sh.g51, h1, sh.a523, u2_ne, i_lits, pk_mul, nI_add, sh.s525, sh.s526, sh.s527, sh.s523, ← hI1, e1, e7, e9, sh.a528, e3', h7, h9, h3]
  rw [hpre]
  by_cases z : h.2.1.length + 1 = s
  · rw [if_pos (by rw [z])]
    by_cases y : h.1.length < cr
    · obtain ⟨I2, e2, g2, k2⟩ := m_closes sh hk hc (by show h.1.length < 4; omega) (by rw [hp5]; omega)
      refine ⟨I2, ?_, FrC_tr f1 g2, ?_⟩
      · rw [if_neg (fun w => by have := (nI_leI (by omega) (by omega)).mp w; omega), e2]
        rfl
      · rw [if_pos ⟨by omega, y⟩]; exact k2
    · refine ⟨I1, ?_, f1, ?_⟩
      · rw [if_pos ((nI_leI (by omega) (by omega)).mpr (by omega))]
      · rw [if_neg (fun w => y w.2)]; exact hk
  · refine ⟨I1, ?_, f1, ?_⟩
    · rw [if_neg (fun w => z ((nI_eq (by omega) (by omega)).mp w))]
    · rw [if_neg (fun w => by have := w.1; omega)]; exact hk
theorem m_puts (sh : shM T) (h7 : I 492 7 = nI s) (h9 : I 492 9 = nI cr) (hh : ChM I c h) (hc : c < 54) (hs : 1 ≤ s ∧ s ≤ 4) (hcr : cr ≤ 4) (hok : chOK s cr h) (ht : tkR s cr h = true) (r : Rec) : ∃ I', f_m_puts 492 (nI c) (kv r.1) r.2.1 (nI r.2.2) ((I, T) : Mem) = some ((I', T) : Mem) ∧ FrC c I I' ∧ ChM I' c (putR s cr h r) := by
  have h1 := hh.1
  have o4 := hok.2.1
  unfold f_m_puts putR
  by_cases z : s ≤ h.2.1.length
  · have hr : h.1.length < cr := by
      simp only [tkR, Bool.or_eq_true, decide_eq_true_eq] at ht
      omega
    obtain ⟨I1, e1, g1, k1⟩ := m_closes sh hh hc (by omega) (by omega)
    obtain ⟨c1, c2, c3⟩ := clo1_ok hok hr (by intro hn; rw [hn] at z; simp at z; omega)
    have e0 := g1.1 492 (by omega)
    obtain ⟨I2, e2, g2, k2⟩ := m_puts18 sh (by rw [e0]; exact h7) (by rw [e0]; exact h9) k1 hc hs.2 hcr c1 (by simp [clo1]; omega) r
    refine ⟨I2, ?_, FrC_tr g1 g2, ?_⟩
    · have : h.2.1.length = s := by omega
      simp (disch := omega) only [↓sh.gI, ↓sh.pI, ↓sh.ck, ↓cI_s, ↓cV_s, ↓nmI_t, ↓reduceIte, rmI_t, dvI_t, nI_add, pk_mul, pk_sub, nI_leI, nI_ltI, nI_eq, n_leT, n_leF, n_ltT, n_ltF, n_eqT, n_eqF, u2_ne, u2_at, u2_nj, ↓i_neg1, m1_ne, m1_en, m1_lt, m1_le, m1_nlt, m1_nle, i_lits, true_and, and_true, ↓sh.g46, sh.a523, sh.s523, h1, h7, e1, e2]
    · simp only [if_pos z]; exact k2
  · obtain ⟨I1, e1, g1, k1⟩ := m_puts18 sh h7 h9 hh hc hs.2 hcr hok (by omega) r
    refine ⟨I1, ?_, g1, ?_⟩
    · simp (disch := omega) only [↓sh.gI, ↓sh.pI, ↓sh.ck, ↓cI_s, ↓cV_s, ↓nmI_t, ↓reduceIte, rmI_t, dvI_t, nI_add, pk_mul, pk_sub, nI_leI, nI_ltI, nI_eq, n_leT, n_leF, n_ltT, n_ltF, n_eqT, n_eqF, u2_ne, u2_at, u2_nj, ↓i_neg1, m1_ne, m1_en, m1_lt, m1_le, m1_nlt, m1_nle, i_lits, true_and, and_true, ↓sh.g46, sh.a523, sh.s523, h1, h7, e1]
    · simp only [if_neg z]; exact k1
theorem m_putsBarrier (sh : shM T) (hh : ChM I c h) (hc : c < 54) (hs : s ≤ 4) (hcr : cr ≤ 4) (hok : chOK s cr h) (ht : tkB cr h = true) : ∃ I', f_m_putsBarrier 492 (nI c) ((I, T) : Mem) = some ((I', T) : Mem) ∧ FrC c I I' ∧ ChM I' c (putB h) := by
  have h1 := hh.1
  have o4 := hok.2.1
  simp only [tkB, decide_eq_true_eq] at ht
  have key : ∀ (I1 : Iw) (x : Ch), FrC c I I1 → ChM I1 c x → x.1.length < cr → x.2.1 = [] → ∃ I', f_m_putsBarrier_14 492 (nI c) ((I1, T) : Mem) = some ((I', T) : Mem) ∧ FrC c I I' ∧ ChM I' c (x.1 ++ [none], x.2) := by
    intro I1 x f1 k1 l1 n1
    obtain ⟨a1, a2, a3, a4, t, t4, a5, a6, a7⟩ := k1
    refine ⟨u2 (u2 I1 530 (4 * c + x.1.length) m1) 528 c (nI (x.1.length + 1)), ?_, FrC_tr f1 ⟨fun a ha => ?_, fun y hy => ?_, fun y hy => ?_, fun y hy => ?_⟩, ?_, ?_, ?_, fun j hj => ?_, t, t4, ?_, fun hz => by simp at hz, fun y hy => ?_⟩
    · unfold f_m_putsBarrier_14
      simp (disch := omega) only [↓sh.gI, ↓sh.pI, ↓sh.ck, ↓cI_s, ↓cV_s, ↓nmI_t, ↓reduceIte, rmI_t, dvI_t, nI_add, pk_mul, pk_sub, nI_leI, nI_ltI, nI_eq, n_leT, n_leF, n_ltT, n_ltF, n_eqT, n_eqF, u2_ne, u2_at, u2_nj, ↓i_neg1, m1_ne, m1_en, m1_lt, m1_le, m1_nlt, m1_nle, i_lits, true_and, and_true, ↓sh.g51, ↓sh.g53, sh.a528, sh.a530, sh.s528, sh.s530, a3]
    · rw [u2_ne (by omega), u2_ne (by omega)]
    · refine ⟨?_, ?_, ?_, ?_⟩ <;> simp (disch := omega) only [u2_ne, u2_nj]
    · refine ⟨?_, ?_, ?_, ?_⟩ <;> simp (disch := omega) only [u2_ne, u2_nj]
    · refine ⟨?_, ?_, ?_⟩ <;> simp (disch := omega) only [u2_ne]
    · simp (disch := omega) only [u2_ne]; exact a1
    · simp (disch := omega) only [u2_ne]; exact a2
    · simp (disch := omega) only [u2_at, List.length_append, List.length_cons, List.length_nil, Nat.zero_add]
    · simp (disch := omega) only [u2_ne]; exact a4 j hj
    · simp (disch := omega) only [u2_ne]; exact a5
    · simp only [List.length_append, List.length_cons, List.length_nil] at hy ⊢
      by_cases hy2 : y < x.1.length
      · rw [List.getElem_append_left hy2]
        have hb := a7 y hy2
        cases hq' : x.1[y] with
        | none =>
          rw [hq'] at hb
          exact ⟨by simp (disch := omega) only [u2_ne, u2_nj]; exact hb.1, hb.2⟩
        | some l =>
          rw [hq'] at hb
          obtain ⟨b1, b2, b3⟩ := hb
          refine ⟨by simp (disch := omega) only [u2_ne, u2_nj]; exact b1, b2, fun j hj => ?_⟩
          simp (disch := omega) only [u2_ne]
          exact b3 j hj
      · have hy3 : y = x.1.length := by omega
        subst hy3
        have ht : (if x.1.length = 0 then t else 0) = 0 := by
          by_cases hz : x.1.length = 0
          · rw [if_pos hz]; exact a6 (List.length_eq_zero_iff.mp hz)
          · rw [if_neg hz]
        rw [List.getElem_append_right (Nat.le_refl _), ht]
        simp only [Nat.sub_self, List.getElem_cons_zero]
        exact ⟨by simp (disch := omega) only [u2_ne, u2_at], rfl⟩
  unfold f_m_putsBarrier putB
  by_cases z : h.2.1 = []
  · rw [if_pos z] at ht
    obtain ⟨I1, e1, g1, k1⟩ := key I h FrC_rf hh (by omega) z
    refine ⟨I1, ?_, g1, ?_⟩
    · simp (disch := omega) only [↓sh.gI, ↓sh.pI, ↓sh.ck, ↓cI_s, ↓cV_s, ↓nmI_t, ↓reduceIte, rmI_t, dvI_t, nI_add, pk_mul, pk_sub, nI_leI, nI_ltI, nI_eq, n_leT, n_leF, n_ltT, n_ltF, n_eqT, n_eqF, u2_ne, u2_at, u2_nj, ↓i_neg1, m1_ne, m1_en, m1_lt, m1_le, m1_nlt, m1_nle, i_lits, true_and, and_true, ↓sh.g46, sh.a523, sh.s523, h1, z, List.length_nil, e1]
    · simp only [if_pos z]; exact k1
  · rw [if_neg z] at ht
    have zl : 0 < h.2.1.length := List.length_pos_iff.mpr z
    obtain ⟨I0, e0, g0, k0⟩ := m_closes sh hh hc (by omega) (by omega)
    obtain ⟨I1, e1, g1, k1⟩ := key I0 (clo1 h) g0 k0 (by simp [clo1]; omega) rfl
    refine ⟨I1, ?_, g1, ?_⟩
    · simp (disch := omega) only [↓sh.gI, ↓sh.pI, ↓sh.ck, ↓cI_s, ↓cV_s, ↓nmI_t, ↓reduceIte, rmI_t, dvI_t, nI_add, pk_mul, pk_sub, nI_leI, nI_ltI, nI_eq, n_leT, n_leF, n_ltT, n_ltF, n_eqT, n_eqF, u2_ne, u2_at, u2_nj, ↓i_neg1, m1_ne, m1_en, m1_lt, m1_le, m1_nlt, m1_nle, i_lits, true_and, and_true, ↓sh.g46, sh.a523, sh.s523, h1, e0, e1]
    · simp only [if_neg z]; exact k1
end
