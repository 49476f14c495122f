/-! THE REFERENCE: the first batch leaves a channel -/
/-- k batches and m records moved one batch to the front -/
def sh3 (I : Iw) (c k m : Nat) : Iw := fun a x => if a = 530 ∧ 4 * c ≤ x ∧ x < 4 * c + k then I a (x + 1) else if (a = 531 ∨ a = 532 ∨ a = 533) ∧ 16 * c ≤ x ∧ x < 16 * c + m then I a (x + 4) else I a x
theorem sh3_0 {I : Iw} {c : Nat} : sh3 I c 0 0 = I := by
  funext a x
  unfold sh3
  rw [if_neg (by omega), if_neg (by omega)]
theorem sh3_ne {I : Iw} {c k m a : Nat} (h : a ≠ 530 ∧ a ≠ 531 ∧ a ≠ 532 ∧ a ≠ 533) : sh3 I c k m a = I a := by
  funext x
  unfold sh3
  rw [if_neg (by omega), if_neg (by omega)]
theorem sh3_b {I : Iw} {c k m x : Nat} (h : 4 * c ≤ x) (h2 : x < 4 * c + k) : sh3 I c k m 530 x = I 530 (x + 1) := by
  unfold sh3
  rw [if_pos ⟨rfl, h, h2⟩]
theorem sh3_bn {I : Iw} {c k m x : Nat} (h : x < 4 * c ∨ 4 * c + k ≤ x) : sh3 I c k m 530 x = I 530 x := by
  unfold sh3
  rw [if_neg (by omega), if_neg (by omega)]
theorem sh3_r {I : Iw} {c k m x a : Nat} (ha : a = 531 ∨ a = 532 ∨ a = 533) (h : 16 * c ≤ x) (h2 : x < 16 * c + m) : sh3 I c k m a x = I a (x + 4) := by
  unfold sh3
  rw [if_neg (by omega), if_pos ⟨ha, h, h2⟩]
theorem sh3_rn {I : Iw} {c k m x a : Nat} (ha : a = 531 ∨ a = 532 ∨ a = 533) (h : x < 16 * c ∨ 16 * c + m ≤ x) : sh3 I c k m a x = I a x := by
  unfold sh3
  rw [if_neg (by omega), if_neg (by omega)]
theorem sh3_k {I : Iw} {c k m : Nat} : u2 (sh3 I c k m) 530 (4 * c + k) (I 530 (4 * c + k + 1)) = sh3 I c (k + 1) m := by
  funext a x
  by_cases ha : a = 530
  · subst ha
    by_cases hx : x = 4 * c + k
    · subst hx
      rw [u2_at rfl rfl, sh3_b (by omega) (by omega)]
    · rw [u2_nj rfl hx]
      by_cases hy : 4 * c ≤ x ∧ x < 4 * c + k
      · rw [sh3_b hy.1 hy.2, sh3_b hy.1 (by omega)]
      · rw [sh3_bn (by omega), sh3_bn (by omega)]
  · rw [u2_ne ha]
    simp only [sh3, ha, false_and, ↓reduceIte]
theorem sh3_m {I : Iw} {c k m : Nat} : u2 (u2 (u2 (sh3 I c k m) 531 (16 * c + m) (I 531 (16 * c + m + 4))) 532 (16 * c + m) (I 532 (16 * c + m + 4))) 533 (16 * c + m) (I 533 (16 * c + m + 4)) = sh3 I c k (m + 1) := by
  funext a x
  by_cases ha : a = 531 ∨ a = 532 ∨ a = 533
  · have key : ∀ b, b = 531 ∨ b = 532 ∨ b = 533 → (if x = 16 * c + m then I b (16 * c + m + 4) else sh3 I c k m b x) = sh3 I c k (m + 1) b x := fun b hb => by
      by_cases hx : x = 16 * c + m
      · rw [if_pos hx, sh3_r hb (by omega) (by omega), hx]
      · rw [if_neg hx]
        by_cases hy : 16 * c ≤ x ∧ x < 16 * c + m
        · rw [sh3_r hb hy.1 hy.2, sh3_r hb hy.1 (by omega)]
        · rw [sh3_rn hb (by omega), sh3_rn hb (by omega)]
    rw [← key a ha]
    by_cases hx : x = 16 * c + m
    · subst hx
      rw [if_pos rfl]
      rcases ha with rfl | rfl | rfl
      · rw [u2_ne (by omega), u2_ne (by omega), u2_at rfl rfl]
      · rw [u2_ne (by omega), u2_at rfl rfl]
      · rw [u2_at rfl rfl]
    · rw [if_neg hx]
      rcases ha with rfl | rfl | rfl
      · rw [u2_ne (by omega), u2_ne (by omega), u2_nj rfl hx]
      · rw [u2_ne (by omega), u2_nj rfl hx, u2_ne (by omega)]
      · rw [u2_nj rfl hx, u2_ne (by omega), u2_ne (by omega)]
  · rw [u2_ne (by omega), u2_ne (by omega), u2_ne (by omega)]
    unfold sh3
    rw [if_neg (fun (z : (a = 531 ∨ a = 532 ∨ a = 533) ∧ 16 * c ≤ x ∧ x < 16 * c + m) => ha z.1), if_neg (fun (z : (a = 531 ∨ a = 532 ∨ a = 533) ∧ 16 * c ≤ x ∧ x < 16 * c + (m + 1)) => ha z.1)]
section
variable {T : Tl} {I : Iw} {c : Nat} {h : Ch}
theorem pops_in (sh : shM T) (hc : c < 54) (k : Nat) (hk : k < 3) (kont : Nat → Int32 → Int32 → Mem → Option Mem) : ∀ (d n j : Nat), j + d = 4 → d < n → f_m_pops_36 kont n 492 (nI c) (nI (4 * c + k)) (nI j) ((sh3 I c (k + 1) (4 * k + j), T) : Mem) = kont 492 (nI c) (nI (4 * c + k + 1)) ((sh3 I c (k + 1) (4 * k + 4), T) : Mem)
  | d, 0, j, _, hn => by omega
  | 0, n + 1, j, hj, hn => by
    have : j = 4 := by omega
    subst this
    unfold f_m_pops_36
    simp (disch := omega) only [↓sh.gI, ↓sh.pI, ↓sh.ck, ↓cI_s, ↓cV_s, ↓nmI_t, ↓reduceIte, rmI_t, dvI_t, nI_add, pk_mul, pk_sub, nI_leI, nI_ltI, nI_eq, n_leT, n_leF, n_ltT, n_ltF, n_eqT, n_eqF, u2_ne, u2_at, u2_nj, ↓i_neg1, m1_ne, m1_en, m1_lt, m1_le, m1_nlt, m1_nle, i_lits, true_and, and_true, ↓sh.g54, ↓sh.g55, ↓sh.g56, sh.a531, sh.a532, sh.a533, sh.s531, sh.s532, sh.s533]
  | d + 1, n + 1, j, hj, hn => by
    have e := pops_in sh hc k hk kont d n (j + 1) (by omega) (by omega)
    have e1 : ∀ a, a = 531 ∨ a = 532 ∨ a = 533 → sh3 I c (k + 1) (4 * k + j) a (4 * (4 * c + k + 1) + j) = I a (16 * c + (4 * k + j) + 4) := fun a ha => by
      rw [sh3_rn ha (by omega), show 4 * (4 * c + k + 1) + j = 16 * c + (4 * k + j) + 4 by omega]
    have e2 : 4 * (4 * c + k) + j = 16 * c + (4 * k + j) := by omega
    have e3 := sh3_m (I := I) (c := c) (k := k + 1) (m := 4 * k + j)
    have e4 : 4 * k + j + 1 = 4 * k + (j + 1) := by omega
    rw [e4] at e3
    unfold f_m_pops_36
    simp (disch := omega) only [↓sh.gI, ↓sh.pI, ↓sh.ck, ↓cI_s, ↓cV_s, ↓nmI_t, ↓reduceIte, rmI_t, dvI_t, nI_add, pk_mul, pk_sub, nI_leI, nI_ltI, nI_eq, n_leT, n_leF, n_ltT, n_ltF, n_eqT, n_eqF, u2_ne, u2_at, u2_nj, ↓i_neg1, m1_ne, m1_en, m1_lt, m1_le, m1_nlt, m1_nle, i_lits, true_and, and_true, ↓sh.g54, ↓sh.g55, ↓sh.g56, sh.a531, sh.a532, sh.a533, sh.s531, sh.s532, sh.s533, e1 531 (by omega), e1 532 (by omega), e1 533 (by omega), e2, e3, e]
theorem pops_out (sh : shM T) (hc : c < 54) (len : Nat) (hl : len + 1 ≤ 4) (h1 : I 528 c = nI (len + 1)) : ∀ (d n k : Nat), k + d = len → d < n → f_m_pops_4 n 492 (nI c) (nI (4 * c + k)) ((sh3 I c k (4 * k), T) : Mem) = some ((u2 (u2 (sh3 I c len (4 * len)) 528 c (nI len)) 529 c (nI 0), T) : Mem)
  | d, 0, k, _, hn => by omega
  | 0, n + 1, k, hk, hn => by
    have : k = len := by omega
    subst this
    have e1 : sh3 I c k (4 * k) 528 = I 528 := sh3_ne (by omega)
    unfold f_m_pops_4
    simp (disch := omega) only [↓sh.gI, ↓sh.pI, ↓sh.ck, ↓cI_s, ↓cV_s, ↓nmI_t, ↓reduceIte, rmI_t, dvI_t, nI_add, pk_mul, pk_sub, nI_leI, nI_ltI, nI_eq, n_leT, n_leF, n_ltT, n_ltF, n_eqT, n_eqF, u2_ne, u2_at, u2_nj, ↓i_neg1, m1_ne, m1_en, m1_lt, m1_le, m1_nlt, m1_nle, i_lits, true_and, and_true, ↓sh.g51, ↓sh.g52, ↓sh.g53, sh.a528, sh.a529, sh.a530, sh.s528, sh.s529, sh.s530, e1, h1]
    rfl
  | d + 1, n + 1, k, hk, hn => by
    have e := pops_out sh hc len hl h1 d n (k + 1) (by omega) (by omega)
    have e1 : sh3 I c k (4 * k) 528 = I 528 := sh3_ne (by omega)
    have e2 : sh3 I c k (4 * k) 530 (4 * c + k + 1) = I 530 (4 * c + k + 1) := sh3_bn (by omega)
    have e3 := sh3_k (I := I) (c := c) (k := k) (m := 4 * k)
    have e4 := pops_in (I := I) sh hc k (by omega) (f_m_pops_4 n) 4 FU 0 (by omega) (by unfold FU; omega)
    rw [show 4 * k + 0 = 4 * k from rfl, show 4 * k + 4 = 4 * (k + 1) by omega, show 4 * c + k + 1 = 4 * c + (k + 1) by omega] at e4
    rw [show 4 * c + (k + 1) = 4 * c + k + 1 by omega] at e
    unfold f_m_pops_4
    simp (disch := omega) only [↓sh.gI, ↓sh.pI, ↓sh.ck, ↓cI_s, ↓cV_s, ↓nmI_t, ↓reduceIte, rmI_t, dvI_t, nI_add, pk_mul, pk_sub, nI_leI, nI_ltI, nI_eq, n_leT, n_leF, n_ltT, n_ltF, n_eqT, n_eqF, u2_ne, u2_at, u2_nj, ↓i_neg1, m1_ne, m1_en, m1_lt, m1_le, m1_nlt, m1_nle, i_lits, true_and, and_true, ↓sh.g51, ↓sh.g52, ↓sh.g53, sh.a528, sh.a529, sh.a530, sh.s528, sh.s529, sh.s530, e1, h1, e2, e3, e4]
    exact e
theorem m_pops (sh : shM T) (hh : ChM I c h) (hc : c < 54) (hl : h.1.length ≤ 4) {b : Bt} {q : List Bt} (hq : h.1 = b :: q) : ∃ I', f_m_pops 492 (nI c) ((I, T) : Mem) = some ((I', T) : Mem) ∧ FrC c I I' ∧ ChM I' c (q, h.2) := by
  obtain ⟨h1, h2, h3, h4, t, t4, h5, h6, h7⟩ := hh
  rw [hq] at h3 h7 hl
  simp only [List.length_cons] at h3 hl
  have e := pops_out (I := I) sh hc q.length hl h3 q.length FU 0 (by omega) (by unfold FU; omega)
  rw [show 4 * 0 = 0 from rfl, sh3_0] at e
  have f0 : ∀ a, a ≠ 528 → a ≠ 529 → (a ≠ 530 ∧ a ≠ 531 ∧ a ≠ 532 ∧ a ≠ 533) → u2 (u2 (sh3 I c q.length (4 * q.length)) 528 c (nI q.length)) 529 c (nI 0) a = I a := fun a g1 g2 g3 => by rw [u2_ne g2, u2_ne g1, sh3_ne g3]
  refine ⟨u2 (u2 (sh3 I c q.length (4 * q.length)) 528 c (nI q.length)) 529 c (nI 0), ?_, ⟨fun a ha => f0 a (by omega) (by omega) (by omega), fun x hx => ?_, fun x hx => ?_, fun x hx => ?_⟩, ?_, ?_, ?_, ?_, 0, by omega, ?_, fun _ => rfl, fun x hx => ?_⟩
  · unfold f_m_pops
    simp (disch := omega) only [↓sh.gI, ↓sh.pI, ↓sh.ck, ↓cI_s, ↓cV_s, ↓nmI_t, ↓reduceIte, rmI_t, dvI_t, nI_add, pk_mul, pk_sub, nI_leI, nI_ltI, nI_eq, n_leT, n_leF, n_ltT, n_ltF, n_eqT, n_eqF, u2_ne, u2_at, u2_nj, ↓i_neg1, m1_ne, m1_en, m1_lt, m1_le, m1_nlt, m1_nle, i_lits, true_and, and_true]
    exact e
  · rw [f0 523 (by omega) (by omega) (by omega), f0 524 (by omega) (by omega) (by omega), u2_ne (by omega), u2_nj rfl hx, u2_nj rfl hx, u2_ne (by omega), sh3_ne (by omega), sh3_ne (by omega)]
    exact ⟨rfl, rfl, rfl, rfl⟩
  · rw [f0 525 (by omega) (by omega) (by omega), f0 526 (by omega) (by omega) (by omega), f0 527 (by omega) (by omega) (by omega), u2_ne (by omega), u2_ne (by omega), sh3_bn (by omega)]
    exact ⟨rfl, rfl, rfl, rfl⟩
  · rw [u2_ne (by omega), u2_ne (by omega), u2_ne (by omega), u2_ne (by omega), u2_ne (by omega), u2_ne (by omega), sh3_rn (by omega) (by omega), sh3_rn (by omega) (by omega), sh3_rn (by omega) (by omega)]
    exact ⟨rfl, rfl, rfl⟩
  · rw [f0 523 (by omega) (by omega) (by omega)]; exact h1
  · rw [f0 524 (by omega) (by omega) (by omega)]; exact h2
  · rw [u2_ne (by omega)]; exact u2_at rfl rfl
  · intro j hj
    rw [f0 525 (by omega) (by omega) (by omega), f0 526 (by omega) (by omega) (by omega), f0 527 (by omega) (by omega) (by omega)]
    exact h4 j hj
  · exact u2_at rfl rfl
  · simp only at hx
    have hb := h7 (x + 1) (by simp only [List.length_cons]; omega)
    rw [if_neg (by omega)] at hb
    simp only [List.getElem_cons_succ] at hb
    have g1 : ∀ a, a ≠ 528 → a ≠ 529 → u2 (u2 (sh3 I c q.length (4 * q.length)) 528 c (nI q.length)) 529 c (nI 0) a = sh3 I c q.length (4 * q.length) a := fun a g1 g2 => by rw [u2_ne g2, u2_ne g1]
    show BtM _ c x (if x = 0 then 0 else 0) q[x]
    rw [show (if x = 0 then 0 else 0) = 0 by split <;> rfl]
    cases hq' : q[x] with
    | none =>
      rw [hq'] at hb
      exact ⟨by rw [g1 530 (by omega) (by omega), sh3_b (by omega) (by omega)]; exact hb.1, rfl⟩
    | some l =>
      rw [hq'] at hb
      obtain ⟨b1, b2, b3⟩ := hb
      refine ⟨by rw [g1 530 (by omega) (by omega), sh3_b (by omega) (by omega)]; exact b1, b2, fun j hj => ?_⟩
      have b4 := b3 j hj
      rw [g1 531 (by omega) (by omega), g1 532 (by omega) (by omega), g1 533 (by omega) (by omega), sh3_r (by omega) (by omega) (by omega), sh3_r (by omega) (by omega) (by omega), sh3_r (by omega) (by omega) (by omega), show 16 * c + 4 * x + 0 + j + 4 = 16 * c + 4 * (x + 1) + 0 + j by omega]
      exact b4
end
