/-! CALLS: plain, of the reference -/
/-- a record waiting in the reference's stack -/
def Ent (I : Iw) (b : Nat) (o : Nat) (k : Fin 16) (v : Int32) : Prop := I 544 b = nI o ∧ I 545 b = kv k ∧ I 546 b = v
def FQ (I I' : Iw) (b : Nat) : Prop := (∀ a, a ≠ 492 → (a < 539 ∨ 546 < a) → I' a = I a) ∧ (∀ j, j ≠ 68 → I' 492 j = I 492 j) ∧ ∀ j, j < b → I' 544 j = I 544 j ∧ I' 545 j = I 545 j ∧ I' 546 j = I 546 j
section
variable {T T' : Tl} {I I' : Iw} {E E' : Env} {D D' : Dy} {Q Q' : Slow} {S : Sy} {g g' : Nat → Kst} {o i j s c r tk k m : Nat}
theorem FQ_tr {I1 I2 : Iw} {b1 b2 : Nat} (h1 : FQ I I1 b1) (h2 : FQ I1 I2 b2) (h : b1 ≤ b2) : FQ I I2 b1 := ⟨fun a g1 g2 => (h2.1 a g1 g2).trans (h1.1 a g1 g2), fun j g1 => (h2.2.1 j g1).trans (h1.2.1 j g1), fun j hj => by
  obtain ⟨a1, a2, a3⟩ := h2.2.2 j (by omega)
  obtain ⟨c1, c2, c3⟩ := h1.2.2 j hj
  exact ⟨a1.trans c1, a2.trans c2, a3.trans c3⟩⟩
theorem FQ_CoM {b : Nat} (h : CoM I E) (f : FQ I I' b) : CoM I' E := by
  obtain ⟨c1, c2, c3, c4, c5, c6, c7, c8⟩ := h
  refine ⟨(f.2.1 _ (by omega)).trans c1, (f.2.1 _ (by omega)).trans c2, (f.2.1 _ (by omega)).trans c3, (f.2.1 _ (by omega)).trans c4, (f.2.1 _ (by omega)).trans c5, (f.2.1 _ (by omega)).trans c6, ?_, ?_⟩
  · rw [f.1 494 (by omega) (by omega), f.1 495 (by omega) (by omega), f.1 496 (by omega) (by omega), f.1 497 (by omega) (by omega)]
    exact c7
  · rw [f.1 498 (by omega) (by omega), f.1 499 (by omega) (by omega)]
    exact c8
theorem Ent_q {b b' o' : Nat} {k' : Fin 16} {v' : Int32} (h : Ent I b o' k' v') (f : FQ I I' b') (hb : b < b') : Ent I' b o' k' v' := by
  obtain ⟨a1, a2, a3⟩ := f.2.2 b hb
  exact ⟨a1.trans h.1, a2.trans h.2.1, a3.trans h.2.2⟩
theorem psh (sh : shM T) (k23 : Nat → Int32 → Mem → Option Mem) (l1 : Int32) {L : List (Fin 16 × Int32)} (hL : L.length ≤ 3) : ∀ (j p : Nat) (I : Iw), j ≤ L.length → p + j ≤ 30 → OutM I L → ∃ I', (∀ (n : Nat) (k64 : Nat → Int32 → Int32 → Mem → Option Mem), f_m_plainly_115 k23 k64 (n + j + 1) 492 l1 (nI p) (nI o) (nI j - 1) ((I, T) : Mem) = k64 492 l1 (nI (p + j)) ((I', T) : Mem)) ∧ (∀ a, a ≠ 544 → a ≠ 545 → a ≠ 546 → I' a = I a) ∧ (∀ x, x < p → I' 544 x = I 544 x ∧ I' 545 x = I 545 x ∧ I' 546 x = I 546 x) ∧ ∀ y (h2 : y < L.length), y < j → Ent I' (p + (j - 1 - y)) (o + 1) L[y].1 L[y].2
  | 0, p, I, _, _, _ => by
    refine ⟨I, fun n k64 => ?_, fun _ _ _ _ => rfl, fun _ _ => ⟨rfl, rfl, rfl⟩, fun y h2 h => absurd h (Nat.not_lt_zero _)⟩
    unfold f_m_plainly_115
    rw [if_pos (by decide)]
    rfl
  | j + 1, p, I, hj, hp, hO => by
    obtain ⟨o1, o2⟩ := hO.2 j (by omega)
    obtain ⟨I1, hI1⟩ : ∃ I1, I1 = u2 (u2 (u2 I 544 p (nI (o + 1))) 545 p (kv L[j].1)) 546 p L[j].2 := ⟨_, rfl⟩
    have f : ∀ a, a ≠ 544 → a ≠ 545 → a ≠ 546 → I1 a = I a := fun a a1 a2 a3 => by rw [hI1, u2_ne a3, u2_ne a2, u2_ne a1]
    have hx : ∀ x, x ≠ p → I1 544 x = I 544 x ∧ I1 545 x = I 545 x ∧ I1 546 x = I 546 x := fun x hx => by
      refine ⟨?_, ?_, ?_⟩
      · rw [hI1, u2_ne (by omega), u2_ne (by omega), u2_nj rfl hx]
      · rw [hI1, u2_ne (by omega), u2_nj rfl hx, u2_ne (by omega)]
      · rw [hI1, u2_nj rfl hx, u2_ne (by omega), u2_ne (by omega)]
    have hpn : Ent I1 p (o + 1) L[j].1 L[j].2 := by
      refine ⟨?_, ?_, ?_⟩
      · rw [hI1, u2_ne (by omega), u2_ne (by omega)]; exact u2_at rfl rfl
      · rw [hI1, u2_ne (by omega)]; exact u2_at rfl rfl
      · rw [hI1]; exact u2_at rfl rfl
    obtain ⟨I2, e2, f2, x2, y2⟩ := psh sh k23 l1 hL j (p + 1) I1 (by omega) (by omega) ⟨by rw [f 492 (by omega) (by omega) (by omega)]; exact hO.1, by rw [f 539 (by omega) (by omega) (by omega), f 540 (by omega) (by omega) (by omega)]; exact hO.2⟩
    refine ⟨I2, fun n k64 => ?_, fun a a1 a2 a3 => (f2 a a1 a2 a3).trans (f a a1 a2 a3), fun x hxp => ?_, fun y h2 h => ?_⟩
    · have g1 : (u2 I 544 p (nI (o + 1))) 539 j = kv L[j].1 := by rw [u2_ne (by omega)]; exact o1
      have g2 : (u2 (u2 I 544 p (nI (o + 1))) 545 p (kv L[j].1)) 540 j = L[j].2 := by rw [u2_ne (by omega), u2_ne (by omega)]; exact o2
      rw [show n + (j + 1) + 1 = (n + j + 1) + 1 by omega]
      conv => lhs; unfold f_m_plainly_115
      rw [show nI (j + 1) - (1 : Int32) = nI j from pk_sub (a := j + 1) (b := 1) (by omega), if_neg (fun z => by have := (nI_ltI (b := 0) (by omega) (by omega)).mp z; omega), sh.g72, show nI o + (1 : Int32) = nI (o + 1) from nI_1 _, sh.s544 (by omega), sh.g73, sh.g66, sh.a539 (by omega), g1, sh.s545 (by omega), sh.g74, sh.g67, sh.a540 (by omega), g2, sh.s546 (by omega), ← hI1, show nI p + (1 : Int32) = nI (p + 1) from nI_1 _, show nI j + (-1 : Int32) = nI j - 1 from (Int32.sub_eq_add_neg (nI j) 1).symm, e2, show p + 1 + j = p + (j + 1) by omega]
    · obtain ⟨a1, a2, a3⟩ := x2 x (by omega)
      obtain ⟨b1, b2, b3⟩ := hx x (by omega)
      exact ⟨a1.trans b1, a2.trans b2, a3.trans b3⟩
    · by_cases hz : y = j
      · subst hz
        rw [show p + (y + 1 - 1 - y) = p by omega]
        obtain ⟨a1, a2, a3⟩ := x2 p (by omega)
        exact ⟨a1.trans hpn.1, a2.trans hpn.2.1, a3.trans hpn.2.2⟩
      · rw [show p + (j + 1 - 1 - y) = p + 1 + (j - 1 - y) by omega]
        exact y2 y h2 (by omega)
theorem stk_list (k23 : Nat → Int32 → Mem → Option Mem) (l1 : Int32) {W B dd : Nat} (h1 : 1 ≤ o) (ihc : ∀ (k : Fin 16) (v : Int32) (f : Nat → Kst) (I : Iw) (b : Nat), b ≤ B → CoM I E → KyM I 541 542 543 f → zK E f → Ent I b o k v → ∃ c I', c ≤ W ∧ (∀ n, f_m_plainly_64 k23 (n + c) 492 l1 (nI (b + 1)) ((I, T) : Mem) = f_m_plainly_64 k23 n 492 l1 (nI b) ((I', T) : Mem)) ∧ KyM I' 541 542 543 (flw E dd o k v f) ∧ FQ I I' b) : ∀ (rest : List (Fin 16 × Int32)) (base : Nat) (f : Nat → Kst) (I : Iw), base + rest.length ≤ B + 1 → CoM I E → KyM I 541 542 543 f → zK E f → (∀ y (h : y < rest.length), Ent I (base + (rest.length - 1 - y)) o rest[y].1 rest[y].2) → ∃ c I', c ≤ rest.length * W ∧ (∀ n, f_m_plainly_64 k23 (n + c) 492 l1 (nI (base + rest.length)) ((I, T) : Mem) = f_m_plainly_64 k23 n 492 l1 (nI base) ((I', T) : Mem)) ∧ KyM I' 541 542 543 (flL E dd o rest f) ∧ FQ I I' base
  | [], base, f, I, _, hc, hK, hz, hE => ⟨0, I, Nat.zero_le _, fun n => rfl, hK, fun _ _ _ => rfl, fun _ _ => rfl, fun _ _ => ⟨rfl, rfl, rfl⟩⟩
  | x :: rest, base, f, I, hb, hc, hK, hz, hE => by
    rw [List.length_cons] at hb
    have e0 := hE 0 (by rw [List.length_cons]; omega)
    simp only [List.length_cons, List.getElem_cons_zero, show rest.length + 1 - 1 - 0 = rest.length by omega] at e0
    obtain ⟨c1, I1, w1, s1, q1, f1⟩ := ihc x.1 x.2 f I (base + rest.length) (by omega) hc hK hz e0
    obtain ⟨c2, I2, w2, s2, q2, f2⟩ := stk_list k23 l1 h1 ihc rest base (flw E dd o x.1 x.2 f) I1 (by omega) (FQ_CoM hc f1) q1 (flw_z dd o x.1 x.2 f h1 hz) (fun y h => by
      have h3 := hE (y + 1) (by rw [List.length_cons]; omega)
      simp only [List.length_cons, List.getElem_cons_succ, show rest.length + 1 - 1 - (y + 1) = rest.length - 1 - y by omega] at h3
      exact Ent_q h3 f1 (by omega))
    refine ⟨c2 + c1, I2, ?_, fun n => ?_, q2, ?_⟩
    · rw [List.length_cons, Nat.succ_mul]; omega
    · rw [List.length_cons, show base + (rest.length + 1) = base + rest.length + 1 by omega, show n + (c2 + c1) = (n + c2) + c1 by omega, s1 (n + c2), s2 n]
    · obtain ⟨g1, g2, g3⟩ := f1
      obtain ⟨k1, k2, k3⟩ := f2
      exact ⟨fun a a1 a2 => (k1 a a1 a2).trans (g1 a a1 a2), fun j a1 => (k2 j a1).trans (g2 j a1), fun j hj => by
        obtain ⟨b1, b2, b3⟩ := k3 j hj
        obtain ⟨d1, d2, d3⟩ := g3 j (by omega)
        exact ⟨b1.trans d1, b2.trans d2, b3.trans d3⟩⟩
theorem stk_one (sh : shM T) (hE : okE E) (hA : okA E) (k23 : Nat → Int32 → Mem → Option Mem) (l1 : Int32) : ∀ (d o dd : Nat), 1 ≤ o → o + d = eN E + 1 → d < dd → ∀ (k : Fin 16) (v : Int32) (f : Nat → Kst) (I : Iw) (b : Nat), b ≤ 2 * (o - 1) → CoM I E → KyM I 541 542 543 f → zK E f → Ent I b o k v → ∃ c I', c ≤ wgt d ∧ (∀ n, f_m_plainly_64 k23 (n + c) 492 l1 (nI (b + 1)) ((I, T) : Mem) = f_m_plainly_64 k23 n 492 l1 (nI b) ((I', T) : Mem)) ∧ KyM I' 541 542 543 (flw E dd o k v f) ∧ FQ I I' b
  | d, o, 0, h1, h2, h3, k, v, f, I, b, hb, hc, hK, hz, hEn => by omega
  | d, o, dd + 1, h1, h2, h3, k, v, f, I, b, hb, hc, hK, hz, hEn => by
    have n4 := hE.1
    have ho : o ≤ eN E + 1 := by omega
    obtain ⟨d1, d2, d3, d4⟩ := hc.op ho
    have hk3 : cop3 (eK E o) (eA E o) := fun e3 => by
      by_cases hz : o = eN E + 1
      · have := hE.2.2.2.2.1
        rw [hz, this] at e3
        omega
      · exact hA o h1 (by omega) e3
    have h7 : eK E o ≠ 7 := fun e7 => by
      by_cases hz : o = eN E + 1
      · have := hE.2.2.2.2.1
        rw [hz, this] at e7
        omega
      · have := hE.2.2.2.2.2.1 o h1 (by omega)
        omega
    obtain ⟨pl1, pl2⟩ := proc_len (kind := eK E o) (a := eA E o) (b := eB E o) (st := f o k) (k := k) (v := v) (fun e3 => by
      obtain ⟨c, hc1, hc2⟩ := hk3 e3
      rw [hc2, nI_clamp (by omega)]
      exact hc1)
    obtain ⟨I1, e1, f1, o1, q1⟩ := m_processes (T := T) (p := 541) (q := 542) (u := 543) sh sh.k541 sh.l541 sh.k542 sh.l542 sh.k543 sh.l543 (by omega) (by omega) (by omega) (by omega) (by omega) d1 d2 d3 (kind_le hE ho) h7 hk3 k v (fun e6 x hx => hz.2 o k x e6 hx) hK
    have F1 : FQ I I1 b := ⟨fun a a1 a2 => f1.1 a a1 (by omega) (by omega) (by omega) (by omega) (by omega), f1.2, fun j hj => ⟨by rw [f1.1 544 (by omega) (by omega) (by omega) (by omega) (by omega) (by omega)], by rw [f1.1 545 (by omega) (by omega) (by omega) (by omega) (by omega) (by omega)], by rw [f1.1 546 (by omega) (by omega) (by omega) (by omega) (by omega) (by omega)]⟩⟩
    have o1' : OutM I1 (plO E o k v f) := o1
    have hPl : (plO E o k v f).length ≤ 3 := pl1
    obtain ⟨I2, e2, f2, x2, y2⟩ := psh (T := T) (o := o) sh k23 l1 hPl (plO E o k v f).length b I1 (Nat.le_refl _) (by omega) o1'
    obtain ⟨u1, u2', u3⟩ := hEn
    have hb1 : nI (b + 1) + (-1 : Int32) = nI b := by
      rw [show nI (b + 1) + (-1 : Int32) = nI (b + 1) - 1 from (Int32.sub_eq_add_neg (nI (b + 1)) 1).symm]
      exact pk_sub (a := b + 1) (b := 1) (by omega)
    have hFU : FU = 199999 - (plO E o k v f).length + (plO E o k v f).length + 1 := by unfold FU; omega
    have step : ∀ n, f_m_plainly_64 k23 (n + 1) 492 l1 (nI (b + 1)) ((I, T) : Mem) = f_m_plainly_64 k23 n 492 l1 (nI (b + (plO E o k v f).length)) ((I2, T) : Mem) := fun n => by
      conv => lhs; unfold f_m_plainly_64
      rw [if_neg (fun z => by have := (nI_leI (b := 0) (by omega) (by omega)).mp z; omega), hb1, sh.g72, sh.a544 (by omega), u1, sh.g73, sh.a545 (by omega), u2', sh.g74, sh.a546 (by omega), u3, sh.g69, sh.g70, sh.g71, sh.ck, e1, cV_x, sh.gI, o1'.1, hFU, e2]
    have F2 : FQ I I2 b := ⟨fun a a1 a2 => by rw [f2 a (by omega) (by omega) (by omega), F1.1 a a1 a2], fun j a1 => by rw [f2 492 (by omega) (by omega) (by omega), F1.2.1 j a1], fun j hj => by
      obtain ⟨a1, a2, a3⟩ := x2 j hj
      obtain ⟨b1, b2, b3⟩ := F1.2.2 j hj
      exact ⟨a1.trans b1, a2.trans b2, a3.trans b3⟩⟩
    have K2 : KyM I2 541 542 543 (plU E o k v f) := KyM_cg q1 (f2 _ (by omega) (by omega) (by omega)) (f2 _ (by omega) (by omega) (by omega)) (f2 _ (by omega) (by omega) (by omega))
    cases d with
    | zero =>
      have hnil : plO E o k v f = [] := pl2 (by rw [show o = eN E + 1 by omega]; exact hE.2.2.2.2.1)
      refine ⟨1, I2, by decide, fun n => ?_, ?_, F2⟩
      · rw [step n, hnil]
        rfl
      · rw [flw_s ho, hnil]
        exact K2
    | succ d =>
      obtain ⟨c, I3, w, s3, q3, f3⟩ := stk_list (T := T) (o := o + 1) k23 l1 (W := wgt d) (B := 2 * o) (dd := dd) (by omega) (fun k v f I b hb hc hK hz hEn => stk_one sh hE hA k23 l1 d (o + 1) dd (by omega) (by omega) (by omega) k v f I b (by omega) hc hK hz hEn) (plO E o k v f) b (plU E o k v f) I2 (by omega) (FQ_CoM hc F2) K2 (plU_z h1 ho hz) (fun y h => y2 y h h)
      refine ⟨c + 1, I3, ?_, fun n => ?_, ?_, FQ_tr F2 f3 (Nat.le_refl _)⟩
      · have : (plO E o k v f).length * wgt d ≤ 3 * wgt d := Nat.mul_le_mul_right _ hPl
        show c + 1 ≤ 1 + 3 * wgt d
        omega
      · rw [show n + (c + 1) = (n + c) + 1 by omega, step (n + c), s3 n]
      · rw [flw_s ho]
        exact q3
theorem pln23 (sh : shM T) (hE : okE E) (hA : okA E) {dO' : Nat} (hO : dO' ≤ (eI E).length) : ∀ (d n m : Nat) (I : Iw), m + d = dO' → d < n → CoM I E → I 492 14 = nI dO' → KyM I 541 542 543 (plnK E m) → ∃ I', f_m_plainly_23 n 492 (nI m) ((I, T) : Mem) = some ((I', T) : Mem) ∧ KyM I' 541 542 543 (plnK E dO') ∧ FQ I I' 0
  | d, 0, m, I, _, hn, _, _, _ => by omega
  | 0, n + 1, m, I, hm, hn, hc, h14, hK => by
    have h60 := hE.2.2.2.2.2.2.2.2.2.2.2
    have e : dO' = m := by omega
    refine ⟨I, ?_, by rw [e]; exact hK, fun _ _ _ => rfl, fun _ _ => rfl, fun _ _ => ⟨rfl, rfl, rfl⟩⟩
    unfold f_m_plainly_23
    rw [sh.gI, h14, if_pos ((nI_leI (by omega) (by omega)).mpr (by omega))]
  | d + 1, n + 1, m, I, hm, hn, hc, h14, hK => by
    have h60 := hE.2.2.2.2.2.2.2.2.2.2.2
    have n4 := hE.1
    have hlt : m < (eI E).length := by omega
    obtain ⟨b1, b2⟩ := hc.2.2.2.2.2.2.2 m hlt
    obtain ⟨I1, hI1⟩ : ∃ I1, I1 = u2 (u2 (u2 I 544 0 (nI 1)) 545 0 (kv (eI E)[m].1)) 546 0 (eI E)[m].2 := ⟨_, rfl⟩
    have f : ∀ a, a ≠ 544 → a ≠ 545 → a ≠ 546 → I1 a = I a := fun a a1 a2 a3 => by rw [hI1, u2_ne a3, u2_ne a2, u2_ne a1]
    have F1 : FQ I I1 0 := ⟨fun a a1 a2 => f a (by omega) (by omega) (by omega), fun j _ => by rw [f 492 (by omega) (by omega) (by omega)], fun j hj => by omega⟩
    have hEn : Ent I1 0 1 (eI E)[m].1 (eI E)[m].2 := by
      refine ⟨?_, ?_, ?_⟩
      · rw [hI1, u2_ne (by omega), u2_ne (by omega)]; exact u2_at rfl rfl
      · rw [hI1, u2_ne (by omega)]; exact u2_at rfl rfl
      · rw [hI1]; exact u2_at rfl rfl
    obtain ⟨c, I2, w, s2, q2, f2⟩ := stk_one (T := T) sh hE hA (f_m_plainly_23 n) (nI m) (eN E) 1 8 (by omega) (by omega) (by omega) (eI E)[m].1 (eI E)[m].2 (plnK E m) I1 0 (by omega) (FQ_CoM hc F1) (KyM_cg hK (f _ (by omega) (by omega) (by omega)) (f _ (by omega) (by omega) (by omega)) (f _ (by omega) (by omega) (by omega))) (plnK_z m (by omega)) hEn
    rw [← plnK_s hlt] at q2
    have F2 := FQ_tr F1 f2 (Nat.le_refl _)
    obtain ⟨I3, e3, q3, f3⟩ := pln23 sh hE hA hO d n (m + 1) I2 (by omega) (by omega) (FQ_CoM hc F2) (by rw [F2.2.1 14 (by omega)]; exact h14) q2
    refine ⟨I3, ?_, q3, FQ_tr F2 f3 (Nat.le_refl _)⟩
    have hw := wgt4 ⟨eN E, by omega⟩
    simp only at hw
    have hFU : FU = (199999 - c + 1) + c := by unfold FU; omega
    have g1 : (u2 I 544 0 (nI 1)) 498 m = kv (eI E)[m].1 := by rw [u2_ne (by omega)]; exact b1
    have g2 : (u2 (u2 I 544 0 (nI 1)) 545 0 (kv (eI E)[m].1)) 499 m = (eI E)[m].2 := by rw [u2_ne (by omega), u2_ne (by omega)]; exact b2
    have s3 := s2 (199999 - c + 1)
    rw [Nat.zero_add] at s3
    unfold f_m_plainly_23
    rw [sh.gI, h14, if_neg (fun z => by have := (nI_leI (by omega) (by omega)).mp z; omega), sh.g72, show (0 : Int32) = nI 0 from rfl, show (1 : Int32) = nI 1 from rfl, sh.s544 (by omega), sh.g73, sh.g11, sh.a498 (by omega), g1, sh.s545 (by omega), sh.g74, sh.g12, sh.a499 (by omega), g2, sh.s546 (by omega), ← hI1, hFU, s3]
    unfold f_m_plainly_64
    rw [if_pos (show nI 0 ≤ (0 : Int32) by decide), show nI m + (1 : Int32) = nI (m + 1) from nI_1 _]
    exact e3
theorem pln2 (sh : shM T) : ∀ (d n k : Nat), k + d = 96 → d < n → f_m_plainly_2 n 492 (nI k) ((fil I (vB I) [541] k, T) : Mem) = f_m_plainly_23 FU 492 (nI 0) ((fil I (vB I) [541] 96, T) : Mem)
  | d, 0, k, _, hn => by omega
  | 0, n + 1, k, hk, hn => by
    have : k = 96 := by omega
    subst this
    unfold f_m_plainly_2
    simp (disch := omega) only [↓sh.gI, ↓sh.pI, ↓sh.ck, ↓cI_x, ↓cV_x, ↓nmI_t, ↓reduceIte, rmI_t, dvI_t, nI_add, pk_mul, pk_sub, nI_leI, nI_ltI, nI_eq, n_leT, n_leF, n_ltT, n_ltF, n_eqT, n_eqF, u2_ne, u2_at, u2_nj, ↓i_neg1, m1_ne, m1_en, m1_lt, m1_le, m1_nlt, m1_nle, i_lits, true_and, and_true, ↓sh.g69, sh.a541, sh.s541]
  | d + 1, n + 1, k, hk, hn => by
    have e := pln2 sh d n (k + 1) (by omega) (by omega)
    have e3 : u2 (fil I (vB I) [541] k) 541 k (nI 0) = fil I (vB I) [541] (k + 1) := fil_step (I := I) (V := vB I) (l := [541]) (m := k)
    unfold f_m_plainly_2
    simp (disch := omega) only [↓sh.gI, ↓sh.pI, ↓sh.ck, ↓cI_x, ↓cV_x, ↓nmI_t, ↓reduceIte, rmI_t, dvI_t, nI_add, pk_mul, pk_sub, nI_leI, nI_ltI, nI_eq, n_leT, n_leF, n_ltT, n_ltF, n_eqT, n_eqF, u2_ne, u2_at, u2_nj, ↓i_neg1, m1_ne, m1_en, m1_lt, m1_le, m1_nlt, m1_nle, i_lits, true_and, and_true, ↓sh.g69, sh.a541, sh.s541, e3, e]
theorem m_plain (sh : shM T) (hC : SM S I T) (h : PD S k) (key sec : Int32) : ∃ I' T', f_m_plain 492 key sec ((I, T) : Mem) = some (numA (plnK (yE S) (dO (yD S)) (eN (yE S) + 1)) key sec, ((I', T') : Mem)) ∧ SM S I' T' ∧ MF I T I' T' := by
  have hE := h.1.1
  have hA := h.1.2.1
  have n4 := hE.1
  have hO : dO (yD S) ≤ (eI (yE S)).length := h.1.2.2.1.2.2.2.2.2.2.1
  obtain ⟨I1, hI1⟩ : ∃ I1, I1 = fil I (vB I) [541] 96 := ⟨_, rfl⟩
  have g1 : ∀ a, a ≠ 541 → I1 a = I a := fun a ha => by rw [hI1]; exact fil_ne (by simp only [List.mem_cons, List.not_mem_nil, or_false]; exact ha)
  have F1 : FQ I I1 0 := ⟨fun a a1 a2 => g1 a (by omega), fun j _ => by rw [g1 492 (by omega)], fun j hj => by omega⟩
  have K1 : KyM I1 541 542 543 (plnK (yE S) 0) := fun o x ho => ⟨by
    have hx := x.isLt
    rw [hI1]
    exact fil_at (by decide) (by omega), fun y hy => by cases hy⟩
  obtain ⟨I2, e2, q2, f2⟩ := pln23 (T := T) sh hE hA hO (dO (yD S)) FU 0 I1 (by omega) (by have := hE.2.2.2.2.2.2.2.2.2.2.2; unfold FU; omega) (FQ_CoM hC.1.1 F1) (by rw [g1 492 (by omega)]; exact hC.1.2.2.2.2.2.1.1) K1
  have F2 := FQ_tr F1 f2 (Nat.le_refl _)
  have e1 := pln2 (I := I) (T := T) sh 96 FU 0 (by omega) (by unfold FU; omega)
  rw [fil_0, ← hI1] at e1
  have hc2 := FQ_CoM hC.1.1 F2
  have em := m_told (T := T) (I := I2) sh hE hc2 q2 (fun o hky x => (plnK_z (dO (yD S)) hO).1 o (Or.inr (Or.inr hky)) x) (fun n k hn => sh.a541 hn) (fun n k hn => sh.a542 hn) (fun n k hn => sh.a543 hn) (nI (eN (yE S) + 1)) key sec
  have hop : opOk (yE S) (nI (eN (yE S) + 1)) = true := by
    unfold opOk inI
    rw [decide_eq_false (show ¬ nI (eN (yE S) + 1) < nI 0 from fun z => by have := (nI_ltI (by omega) (by omega)).mp z; omega), decide_eq_false (show ¬ nI (eN (yE S) + 1) < nI (eN (yE S) + 1) from fun z => by have := (nI_ltI (by omega) (by omega)).mp z; omega)]
    rfl
  rw [hop, if_pos rfl, nI_clamp (by omega)] at em
  refine ⟨I2, T, ?_, ⟨MR_k hC.1 (fun a a1 a2 => F2.1 a (by omega) (by omega)) (fun j a1 a2 => F2.2.1 j (by omega)), ?_, ?_, ?_⟩, MF_row (fun a ha => F2.1 a (by omega) (by omega))⟩
  · unfold f_m_plain f_m_plainly
    rw [sh.ck, show (0 : Int32) = nI 0 from rfl, e1, e2, cV_x, sh.ck, m_sink sh hc2.1, cI_x, sh.g69, sh.g70, sh.g71, sh.ck, em, cI_x]
  · have h2 := hC.2.1
    unfold TxM at h2 ⊢
    rw [F2.2.1 1 (by omega), F2.1 493 (by omega) (by omega)]
    exact h2
  · have h2 := hC.2.2.1
    unfold WrM at h2 ⊢
    rw [F2.2.1 80 (by omega), F2.1 549 (by omega) (by omega)]
    exact h2
  · have h2 := hC.2.2.2
    unfold ExM at h2 ⊢
    rw [F2.2.1 77 (by omega), F2.1 547 (by omega) (by omega), F2.1 548 (by omega) (by omega)]
    exact h2
end
