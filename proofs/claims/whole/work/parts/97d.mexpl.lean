/-! CALLS: explain, of both -/
section
variable {T T' : Tl} {I I' : Iw} {E E' : Env} {D D' : Dy} {Q Q' : Slow} {S : Sy} {g g' : Nat → Kst} {o i j s c r tk k m : Nat}
theorem MR_k (h : MR E D Q r tk I T) (f : ∀ a, 494 ≤ a → a < 535 → I' a = I a) (fj : ∀ j, 2 ≤ j → j ≤ 58 → I' 492 j = I 492 j) : MR E D Q r tk I' T := by
  obtain ⟨⟨c1, c2, c3, c4, c5, c6, c7, c8⟩, h2, h3, h4, h5, h6, h7, h8, h9⟩ := h
  refine ⟨⟨(fj _ (by omega) (by omega)).trans c1, (fj _ (by omega) (by omega)).trans c2, (fj _ (by omega) (by omega)).trans c3, (fj _ (by omega) (by omega)).trans c4, (fj _ (by omega) (by omega)).trans c5, (fj _ (by omega) (by omega)).trans c6, ?_, ?_⟩, ChsM_cg h2 (fun a _ _ => f a (by omega) (by omega)), InsM_cg h3 (fun a _ => f a (by omega) (by omega)), KyM_cg h4 (f _ (by omega) (by omega)) (f _ (by omega) (by omega)) (f _ (by omega) (by omega)), StM_cg h5 (fun a _ _ => f a (by omega) (by omega)), ScM_cg h6 (fun j _ => fj j (by omega) (by omega)), LaM_cg h7 (f _ (by omega) (by omega)) (fj _ (by omega) (by omega)), RuM_cg h8 (fun a _ => f a (by omega) (by omega)), VsM_cg h9 (fun a _ => f a (by omega) (by omega)) (fun j _ => fj j (by omega) (by omega))⟩
  · rw [f 494 (by omega) (by omega), f 495 (by omega) (by omega), f 496 (by omega) (by omega), f 497 (by omega) (by omega)]
    exact c7
  · rw [f 498 (by omega) (by omega), f 499 (by omega) (by omega)]
    exact c8
/-- only field 78 has changed -/
def F78 (I I' : Iw) : Prop := (∀ a, a ≠ 492 → I' a = I a) ∧ ∀ j, j ≠ 78 → I' 492 j = I 492 j
theorem F78_u {v : Int32} : F78 I (u2 I 492 78 v) := ⟨fun a h => u2_ne h, fun j h => u2_nj rfl h⟩
theorem F78_tr {I1 I2 : Iw} (h1 : F78 I I1) (h2 : F78 I1 I2) : F78 I I2 := ⟨fun a h => (h2.1 a h).trans (h1.1 a h), fun j h => (h2.2 j h).trans (h1.2 j h)⟩
theorem bit_rd {m f : Nat} (h7 : m < 8) (hf : f < 3) : ((nI m >>> (nI f &&& (31 : Int32))) &&& (1 : Int32)) = nI (bit m f) := (mask_shr ⟨m, h7⟩ ⟨f, hf⟩).1
theorem mlr_code (sh : shM T) (hs : s < 18) (h7 : m < 7) (n : Nat) (h1 : I 520 s = nI m) (h2 : I 492 78 = nI 0) : ∃ I', f_m_reasonOf_139 (n + 3) 492 (nI s) ((I, T) : Mem) = some (nI 3, ((I', T) : Mem)) ∧ F78 I I' ∧ I' 492 78 = nI (low m) := by
  have b0 := bit_lt (m := m) (f := 0)
  have b1 := bit_lt (m := m) (f := 1)
  have h012 : bit m 0 ≠ 0 → bit m 1 ≠ 0 → bit m 2 = 0 := by
    intro h0 h1
    unfold bit at h0 h1 ⊢
    simp only [Nat.pow_zero, Nat.div_one, Nat.pow_one, show 2 ^ 2 = 4 from rfl] at h0 h1 ⊢
    omega
  have n1 : ∀ b, b = 0 → ¬ nI b = (1 : Int32) := fun b hb z => by rw [hb] at z; exact absurd z (by decide)
  have p1 : ∀ b, b ≤ 1 → b ≠ 0 → nI b = (1 : Int32) := fun b hb hz => by rw [show b = 1 by omega]; rfl
  unfold low
  unfold f_m_reasonOf_139
  rw [sh.g43, sh.a520 hs, h1, sh.gI, h2, bit_rd (by omega) (by omega)]
  by_cases h0 : bit m 0 = 0
  · rw [if_neg (n1 _ h0), if_pos h0]
    exact ⟨I, rfl, ⟨fun _ _ => rfl, fun _ _ => rfl⟩, h2⟩
  rw [if_pos (p1 _ b0 h0), if_neg h0, sh.gI, h2, sh.pI, show nI 0 + (1 : Int32) = nI 1 from rfl]
  unfold f_m_reasonOf_139
  have g1 : (u2 I 492 78 (nI 1)) 520 s = nI m := by rw [u2_ne (by omega)]; exact h1
  have g2 : (u2 I 492 78 (nI 1)) 492 78 = nI 1 := u2_at rfl rfl
  rw [sh.g43, sh.a520 hs, g1, sh.gI, g2, bit_rd (by omega) (by omega)]
  by_cases hb : bit m 1 = 0
  · rw [if_neg (n1 _ hb), if_pos hb]
    exact ⟨_, rfl, F78_u, g2⟩
  rw [if_pos (p1 _ b1 hb), if_neg hb, sh.gI, g2, sh.pI, show nI 1 + (1 : Int32) = nI 2 from rfl]
  unfold f_m_reasonOf_139
  have g3 : (u2 (u2 I 492 78 (nI 1)) 492 78 (nI 2)) 520 s = nI m := by rw [u2_ne (by omega)]; exact g1
  have g4 : (u2 (u2 I 492 78 (nI 1)) 492 78 (nI 2)) 492 78 = nI 2 := u2_at rfl rfl
  rw [sh.g43, sh.a520 hs, g3, sh.gI, g4, bit_rd (by omega) (by omega), if_neg (n1 _ (h012 h0 hb))]
  exact ⟨_, rfl, F78_tr F78_u F78_u, g4⟩
theorem mx91 (sh : shM T) (hR : RO E D) (hC : MR E D Q r tk I T) (hv : vS E o i) : ∃ I', f_m_reasonOf_91 492 (nI o) (nI i) (nI (spt o i)) ((I, T) : Mem) = some (nI (rs3 E D o i).1, ((I', T) : Mem)) ∧ F78 I I' ∧ ((rs3 E D o i).1 < 4 → I' 492 78 = nI (rs3 E D o i).2) := by
  obtain ⟨hE, hI, hP, hN⟩ := hR
  have n4 := hE.1
  have hv1 := hv.1
  have i3 := hv.i3 hE
  have s18 := spt18 hE hv
  have frf : F78 I I := ⟨fun _ _ => rfl, fun _ _ => rfl⟩
  unfold f_m_reasonOf_91 rs3
  by_cases h0 : o = 0
  · have h14 := hC.2.2.2.2.2.1.1
    have h13 := hC.1.2.2.2.2.2.1
    have hle := hI.2.2.2.2.2.2.1
    have h60 := hE.2.2.2.2.2.2.2.2.2.2.2
    rw [h0, if_pos (show nI 0 = (0 : Int32) from rfl), if_pos rfl, sh.gI, h14, sh.gI, h13]
    by_cases hz : dO D = (eI E).length
    · rw [if_pos hz, if_pos (by rw [hz])]
      exact ⟨I, rfl, frf, fun z => absurd z (by show ¬ (4 : Nat) < 4; omega)⟩
    · rw [if_neg hz, if_neg (fun z => hz ((nI_eq (by omega) (by omega)).mp z))]
      exact ⟨I, rfl, frf, fun z => absurd z (by show ¬ (5 : Nat) < 4; omega)⟩
  · have e := m_ready (T := T) sh hE hC.1 hC.2.1 hC.2.2.1 hI (by omega) hv (hP _)
    have hS := (hC.2.2.1 (spt o i) s18).2.1
    have d8 := (dS8 hE hI hv (by omega)).1
    have dd := (dS8 hE hI hv (by omega)).2
    have p3 := hE.p3 (o := o - 1) (by omega)
    have h2p : 2 ^ eP E (o - 1) ≤ 2 ^ 3 := Nat.pow_le_pow_right (by omega) p3
    rw [if_neg (nI_ne0 (by omega) (by omega)), if_neg h0, sh.ck, e, cI_x]
    cases hr : ready E D o i with
    | none =>
      show ∃ I', (if m1 < (0 : Int32) then _ else _) = some (nI (if dS D (spt o i) = 0 then (4, 0) else (3, low (dS D (spt o i)))).1, ((I', T) : Mem)) ∧ F78 I I' ∧ ((if dS D (spt o i) = 0 then (4, 0) else (3, low (dS D (spt o i)))).1 < 4 → I' 492 78 = nI (if dS D (spt o i) = 0 then (4, 0) else (3, low (dS D (spt o i)))).2)
      rw [if_pos (by decide), sh.g43, sh.a520 s18, hS]
      by_cases hz : dS D (spt o i) = 0
      · rw [hz, if_pos (by decide), if_pos rfl]
        exact ⟨I, rfl, frf, fun z => absurd z (by show ¬ (4 : Nat) < 4; omega)⟩
      · rw [if_neg (nI_ne0 (by omega) (by omega)), if_neg hz, sh.pI]
        obtain ⟨I1, e1, f1, g1⟩ := mlr_code (T := T) (I := u2 I 492 78 (nI 0)) (s := spt o i) (m := dS D (spt o i)) sh s18 (by omega) 199997 (by rw [u2_ne (by omega)]; exact hS) (u2_at rfl rfl)
        exact ⟨I1, e1, F78_tr F78_u f1, fun _ => g1⟩
    | some j =>
      have hj : j < 2 ^ 31 := by
        unfold ready at hr
        have := List.mem_of_find?_eq_some hr
        obtain ⟨x, hx1, hx2⟩ := List.mem_map.mp this
        have p1 := hE.p1 (o := o - 1) (by omega)
        have := Nat.mod_lt (dP D (spt o i) + x) (show 0 < eP E (o - 1) by omega)
        omega
      show ∃ I', (if nI j < (0 : Int32) then _ else _) = _ ∧ _
      rw [if_neg (fun z => by have := (nI_ltI (b := 0) hj (by omega)).mp z; omega)]
      exact ⟨I, rfl, frf, fun z => absurd z (by show ¬ (5 : Nat) < 4; omega)⟩
theorem mx61 (sh : shM T) (hR : RO E D) (hC : MR E D Q r tk I T) (hv : vS E o i) : ∃ I', f_m_reasonOf_61 492 (nI o) (nI i) (nI (spt o i)) ((I, T) : Mem) = some (nI (rs2 E D o i).1, ((I', T) : Mem)) ∧ F78 I I' ∧ ((rs2 E D o i).1 < 4 → I' 492 78 = nI (rs2 E D o i).2) := by
  obtain ⟨hE, hI, hP, hN⟩ := id hR
  have n4 := hE.1
  have hv1 := hv.1
  have s18 := spt18 hE hv
  have hH := (hC.2.2.1 (spt o i) s18).2.2.2.1
  have e91 := mx91 sh hR hC hv
  unfold f_m_reasonOf_61 rs2
  rw [sh.g45, sh.a522 s18, hH, b01_cs]
  cases hh : dH D (spt o i) with
  | false => exact e91
  | true =>
    have hle := snk_no hE hI hv (Or.inr hh)
    have e := m_refus (T := T) sh hE hC.1 hC.2.1 hI.1 hle hv.2
    rw [if_pos rfl, if_pos rfl, sh.ck, e, cI_x]
    cases hr : refus E D o i with
    | none =>
      show ∃ I', (if m1 < (0 : Int32) then _ else _) = _ ∧ _
      rw [if_pos (by decide)]
      exact e91
    | some j =>
      have hj := (refus_some hr).1
      have p3 := hE.p3 (o := o + 1) (by omega)
      rw [hr] at e
      show ∃ I', (if nI j < (0 : Int32) then _ else _) = _ ∧ _
      rw [if_neg (fun z => by have := (nI_ltI (b := 0) (by omega) (by omega)).mp z; omega), sh.ck, e, cI_x, sh.pI]
      exact ⟨_, rfl, F78_u, fun _ => u2_at rfl rfl⟩
theorem mx_reason (sh : shM T) (hR : RO E D) (hC : MR E D Q r tk I T) (hv : vS E o i) : ∃ I', f_m_reasonOf 492 (nI o) (nI i) ((I, T) : Mem) = some (nI (rsn E D o i).1, ((I', T) : Mem)) ∧ F78 I I' ∧ ((rsn E D o i).1 < 4 → I' 492 78 = nI (rsn E D o i).2) := by
  obtain ⟨hE, hI, hP, hN⟩ := id hR
  have n4 := hE.1
  have hv1 := hv.1
  have s18 := spt18 hE hv
  obtain ⟨⟨l1, l2⟩, -, -, -, hN0⟩ := hC.2.2.1 (spt o i) s18
  have e61 := mx61 sh hR hC hv
  have l3 := li3 hE hI (spt o i) s18
  unfold f_m_reasonOf rsn
  rw [m_spot, cI_x, sh.g39, sh.a516 s18, l1]
  cases hl : dL D (spt o i) with
  | nil =>
    rw [List.length_nil, if_pos (show nI 0 ≤ (0 : Int32) by decide)]
    exact e61
  | cons x l =>
    rw [hl] at l2 l3
    have hle := snk_no hE hI hv (Or.inl (by rw [hl]; exact List.cons_ne_nil _ _))
    have hk0 := (l2 0 (by rw [List.length_cons]; omega)).1
    simp only [List.getElem_cons_zero, Nat.add_zero] at hk0
    have eg := m_goal (T := T) sh hE hC.1 hN0 (hN _) hv hle x.1
    have hg := goal_lt (D := D) (o := o) (i := i) (k := x.1) hE hle
    have hvc : vC E o i (goal E D o i x.1) := ⟨hle, hv.2, hg⟩
    have l45 := lin45 hE hvc
    have et := m_takesRecord (T := T) sh hC.1.2.1 hC.1.2.2.2.1 (hC.2.1 (lin o i (goal E D o i x.1)) (by omega)) (by omega) hE.2.2.2.2.2.2.2.1.2 hE.2.2.2.2.2.2.2.2.2.1.2 (hI.1 _ _ _ hvc).1
    have h3 : (3 : Int32) * nI (spt o i) = nI (3 * spt o i) := by rw [show (3 : Int32) = nI 3 from rfl, pk_mul]
    rw [List.length_cons] at l3
    rw [List.length_cons, if_neg (fun z => by have := (nI_leI (b := 0) (by omega) (by omega)).mp z; omega), sh.g40, h3, sh.a517 (by omega), hk0, sh.ck, eg, cI_x, m_line, cI_x, sh.ck, et, cI_x, b01_cs]
    show ∃ I', _ = some (nI (if tkR (eS E) (eC E) (dC D (lin o i (goal E D o i x.1))) = true then rs2 E D o i else (1, goal E D o i x.1)).1, ((I', T) : Mem)) ∧ F78 I I' ∧ ((if tkR (eS E) (eC E) (dC D (lin o i (goal E D o i x.1))) = true then rs2 E D o i else (1, goal E D o i x.1)).1 < 4 → I' 492 78 = nI (if tkR (eS E) (eC E) (dC D (lin o i (goal E D o i x.1))) = true then rs2 E D o i else (1, goal E D o i x.1)).2)
    cases ht : tkR (eS E) (eC E) (dC D (lin o i (goal E D o i x.1))) with
    | true =>
      rw [if_pos rfl, if_pos rfl]
      exact e61
    | false =>
      rw [if_neg (by decide), if_neg (by decide), sh.g40, sh.a517 (by omega), hk0, sh.ck, eg, cI_x, sh.pI]
      exact ⟨_, rfl, F78_u, fun _ => u2_at rfl rfl⟩
/-- what the reference's explanation leaves as it is -/
def FE (I I' : Iw) : Prop := (∀ a, a ≠ 492 → a ≠ 547 → a ≠ 548 → I' a = I a) ∧ ∀ j, j ≠ 77 → j ≠ 78 → I' 492 j = I 492 j
theorem FE_MR (h : MR E D Q r tk I T) (f : FE I I') : MR E D Q r tk I' T := MR_k h (fun a h1 h2 => f.1 a (by omega) (by omega) (by omega)) (fun j h1 h2 => f.2 j (by omega) (by omega))
theorem mx_end (sh : shM T) (n : Nat) (a b : Int32) {l : Nat} (h : I 492 77 = nI l) : f_m_explain_41 (n + 1) 492 a b (nI 0) ((I, T) : Mem) = some (nI l, ((I, T) : Mem)) := by
  unfold f_m_explain_41
  rw [if_pos (show nI 0 = (0 : Int32) from rfl), sh.gI, h]
theorem mx_loop (sh : shM T) (hR : RO E D) : ∀ (d n l o i : Nat) (I : Iw), l + (d + 1) = 8 → d + 2 < n → vS E o i → MR E D Q r tk I T → I 492 77 = nI l → ∃ I', f_m_explain_41 n 492 (nI o) (nI i) (nI 1) ((I, T) : Mem) = some (nI (l + (expl E D (d + 1) o i).length), ((I', T) : Mem)) ∧ FE I I' ∧ I' 492 77 = nI (l + (expl E D (d + 1) o i).length) ∧ (∀ j, j < l → I' 547 j = I 547 j ∧ I' 548 j = I 548 j) ∧ ∀ j (h : j < (expl E D (d + 1) o i).length), I' 547 (l + j) = nI (expl E D (d + 1) o i)[j].1 ∧ I' 548 (l + j) = nI (expl E D (d + 1) o i)[j].2
  | d, 0, l, o, i, I, _, hn, _, _, _ => by omega
  | d, n + 1, l, o, i, I, hl, hn, hv, hC, h77 => by
    obtain ⟨hE, hI, hP, hN⟩ := id hR
    have n4 := hE.1
    have hv1 := hv.1
    have i3 := hv.i3 hE
    obtain ⟨I0, e1, f0, h78⟩ := mx_reason sh hR hC hv
    obtain ⟨ok1, ok2, ok3⟩ := rsn_ok hR hv
    have q77 : I0 492 77 = nI l := by rw [f0.2 77 (by omega)]; exact h77
    obtain ⟨I1, hI1⟩ : ∃ I1, I1 = u2 (u2 (u2 I0 547 l (nI (10 * o + i))) 548 l (nI (rsn E D o i).1)) 492 77 (nI (l + 1)) := ⟨_, rfl⟩
    have g1 : (u2 I0 547 l (nI (10 * o + i))) 492 77 = nI l := by rw [u2_ne (by omega)]; exact q77
    have g2 : (u2 (u2 I0 547 l (nI (10 * o + i))) 548 l (nI (rsn E D o i).1)) 492 77 = nI l := by rw [u2_ne (by omega)]; exact g1
    have f1 : FE I I1 := ⟨fun a a1 a2 a3 => by rw [hI1, u2_ne a1, u2_ne a3, u2_ne a2, f0.1 a a1], fun j a1 a2 => by rw [hI1, u2_nj rfl a1, u2_ne (by omega), u2_ne (by omega), f0.2 j a2]⟩
    have w77 : I1 492 77 = nI (l + 1) := by rw [hI1]; exact u2_at rfl rfl
    have w78 : I1 492 78 = I0 492 78 := by rw [hI1, u2_nj rfl (by omega), u2_ne (by omega), u2_ne (by omega)]
    have w547 : ∀ j, I1 547 j = if j = l then nI (10 * o + i) else I 547 j := fun j => by
      rw [hI1, u2_ne (by omega), u2_ne (by omega)]
      by_cases hz : j = l
      · rw [if_pos hz]; exact u2_at rfl hz
      · rw [if_neg hz, u2_nj rfl hz, f0.1 547 (by omega)]
    have w548 : ∀ j, I1 548 j = if j = l then nI (rsn E D o i).1 else I 548 j := fun j => by
      rw [hI1, u2_ne (by omega)]
      by_cases hz : j = l
      · rw [if_pos hz]; exact u2_at rfl hz
      · rw [if_neg hz, u2_nj rfl hz, u2_ne (by omega), f0.1 548 (by omega)]
    have C1 := FE_MR hC f1
    have hx : expl E D (d + 1) o i = (10 * o + i, (rsn E D o i).1) :: (if 4 ≤ (rsn E D o i).1 then [] else expl E D d (if (rsn E D o i).1 = 3 then o - 1 else o + 1) (rsn E D o i).2) := rfl
    have hpre : f_m_explain_41 (n + 1) 492 (nI o) (nI i) (nI 1) ((I, T) : Mem) = if (4 : Int32) ≤ nI (rsn E D o i).1 then (f_m_explain_111 (f_m_explain_41 n) 492 (nI o) (nI (rsn E D o i).1) ((I1, T) : Mem)) else if (8 : Int32) ≤ nI (l + 1) then (f_m_explain_111 (f_m_explain_41 n) 492 (nI o) (nI (rsn E D o i).1) ((I1, T) : Mem)) else f_m_explain_112 (f_m_explain_41 n) 492 (nI o) (nI (rsn E D o i).1) (1 : Int32) ((I1, T) : Mem) := by
      conv => lhs; unfold f_m_explain_41
      rw [if_neg (show ¬ nI 1 = (0 : Int32) by decide), sh.ck, e1, cI_x, sh.g75, sh.gI, q77, show (10 : Int32) * nI o + nI i = nI (10 * o + i) by rw [show (10 : Int32) = nI 10 from rfl, pk_mul, nI_add], sh.s547 (by omega), sh.g76, sh.gI, g1, sh.s548 (by omega), sh.gI, g2, show nI l + (1 : Int32) = nI (l + 1) from nI_1 _, sh.pI, ← hI1, sh.gI, w77]
    have stop : f_m_explain_111 (f_m_explain_41 n) 492 (nI o) (nI (rsn E D o i).1) ((I1, T) : Mem) = some (nI (l + 1), ((I1, T) : Mem)) := by
      obtain ⟨n', rfl⟩ : ∃ n', n = n' + 1 := ⟨n - 1, by omega⟩
      unfold f_m_explain_111 f_m_explain_112 f_m_explain_126
      rw [show (0 : Int32) = nI 0 from rfl]
      split
      · rw [sh.gI]; exact mx_end sh n' _ _ w77
      · rw [sh.gI]; exact mx_end sh n' _ _ w77
    rw [hpre, hx]
    by_cases h4 : 4 ≤ (rsn E D o i).1
    · rw [if_pos h4, if_pos (show (4 : Int32) ≤ nI (rsn E D o i).1 from (nI_leI (a := 4) (by omega) (by omega)).mpr h4)]
      refine ⟨I1, stop, f1, w77, fun j hj => ⟨by rw [w547, if_neg (by omega)], by rw [w548, if_neg (by omega)]⟩, fun j hj => ?_⟩
      have hj1 : j < 1 := hj
      have e0 : j = 0 := by omega
      subst e0
      rw [Nat.add_zero, w547, w548, if_pos rfl, if_pos rfl]
      exact ⟨rfl, rfl⟩
    · rw [if_neg h4, if_neg (show ¬ (4 : Int32) ≤ nI (rsn E D o i).1 from fun z => h4 ((nI_leI (a := 4) (by omega) (by omega)).mp z))]
      cases d with
      | zero =>
        rw [if_pos (show (8 : Int32) ≤ nI (l + 1) from (nI_leI (a := 8) (by omega) (by omega)).mpr (by omega))]
        refine ⟨I1, stop, f1, w77, fun j hj => ⟨by rw [w547, if_neg (by omega)], by rw [w548, if_neg (by omega)]⟩, fun j hj => ?_⟩
        have hj1 : j < 1 := hj
        have e0 : j = 0 := by omega
        subst e0
        rw [Nat.add_zero, w547, w548, if_pos rfl, if_pos rfl]
        exact ⟨rfl, rfl⟩
      | succ d =>
        have hv2 := ok3 (by omega)
        have hnx : I1 492 78 = nI (rsn E D o i).2 := w78.trans (h78 (by omega))
        obtain ⟨I2, e3, k1, k2, k3, k4⟩ := mx_loop sh hR d n (l + 1) (if (rsn E D o i).1 = 3 then o - 1 else o + 1) (rsn E D o i).2 I1 (by omega) (by omega) hv2 C1 w77
        have hlen : l + ((10 * o + i, (rsn E D o i).1) :: expl E D (d + 1) (if (rsn E D o i).1 = 3 then o - 1 else o + 1) (rsn E D o i).2).length = l + 1 + (expl E D (d + 1) (if (rsn E D o i).1 = 3 then o - 1 else o + 1) (rsn E D o i).2).length := by
          rw [List.length_cons]; omega
        rw [if_neg (show ¬ (8 : Int32) ≤ nI (l + 1) from fun z => by have := (nI_leI (a := 8) (by omega) (by omega)).mp z; omega)]
        refine ⟨I2, ?_, ⟨fun a a1 a2 a3 => (k1.1 a a1 a2 a3).trans (f1.1 a a1 a2 a3), fun j a1 a2 => (k1.2 j a1 a2).trans (f1.2 j a1 a2)⟩, by rw [hlen]; exact k2, fun j hj => ⟨by rw [(k3 j (by omega)).1, w547, if_neg (by omega)], by rw [(k3 j (by omega)).2, w548, if_neg (by omega)]⟩, fun j hj => ?_⟩
        · rw [hlen]
          unfold f_m_explain_112 f_m_explain_126
          by_cases h33 : (rsn E D o i).1 = 3
          · have ho1 := rsn_3 hR hv h33
            rw [if_pos h33] at e3
            rw [if_pos (show (3 : Int32) ≤ nI (rsn E D o i).1 by rw [h33]; decide), if_pos h33, sh.gI, hnx, show nI o + (-1 : Int32) = nI (o - 1) by
              rw [← pk_sub ho1]
              exact (Int32.sub_eq_add_neg (nI o) (nI 1)).symm, show (1 : Int32) = nI 1 from rfl]
            exact e3
          · rw [if_neg h33] at e3
            rw [if_neg (show ¬ (3 : Int32) ≤ nI (rsn E D o i).1 from fun z => by have := (nI_leI (a := 3) (by omega) (by omega)).mp z; omega), if_neg h33, sh.gI, hnx, show (1 : Int32) = nI 1 from rfl, show nI o + nI 1 = nI (o + 1) from nI_1 _]
            exact e3
        · cases j with
          | zero =>
            rw [Nat.add_zero, (k3 l (by omega)).1, (k3 l (by omega)).2, w547, w548, if_pos rfl, if_pos rfl]
            exact ⟨rfl, rfl⟩
          | succ j =>
            rw [List.length_cons] at hj
            have := k4 j (by omega)
            rw [show l + (j + 1) = l + 1 + j by omega]
            simp only [List.getElem_cons_succ]
            exact this
theorem inOk_t {p q : Int32} (hE : okE E) (h : inOk E p q = true) : ∃ o i, vS E o i ∧ p = nI o ∧ q = nI i := by
  unfold inOk at h
  rw [Bool.and_eq_true] at h
  obtain ⟨o, ho, rfl⟩ := opOk_t hE.1 h.1
  have n4 := hE.1
  have p1 := hE.p1 ho
  have p3 := hE.p3 ho
  have h2 := h.2
  rw [nI_clamp (by omega)] at h2
  obtain ⟨i, -, hi, rfl⟩ := inI_rng (a := 0) (b := eP E o - 1) (by omega) (by omega) h2
  exact ⟨o, i, ⟨ho, by omega⟩, rfl, rfl⟩
theorem x_explain (hC : SC S I T) (h : PD S k) (hk : k ≤ 512) (p q : Int32) : ∃ I' T', f_x_explain 0 p q ((I, T) : Mem) = some ((yExpl S p q).1, ((I', T') : Mem)) ∧ SC (yExpl S p q).2 I' T' ∧ KP I T I' T' := by
  have hC' := hC
  obtain ⟨sh, shx, h550, hRm, hnE, ⟨g, hCT⟩, hT, hW, hX, hPl, hPr⟩ := hC
  have hE := h.1.1
  have n4 := hE.1
  have hR := RO_of h.1 hk
  obtain ⟨x0, -, -, -, x3, -, x5, -⟩ := id shx
  have ksm := sh.1
  have k489 := shx.2.2.2.2.2.2.2.2.2.2.2.2.2.2.2.2.2.2.1
  unfold f_x_explain yExpl
  rw [gA_t x0, x3, onR_s, ck_t ksm, sm_inI sh hCT.1 hE, cR_x]
  cases hio : inOk (yE S) p q with
  | false => exact ⟨I, T, rfl, hC', KP_rf⟩
  | true =>
    obtain ⟨o, i, hv, rfl, rfl⟩ := inOk_t hE hio
    have hv1 := hv.1
    have i3 := hv.i3 hE
    rw [if_pos rfl, onR_s, if_pos rfl, nI_clamp (by omega), nI_clamp (by omega)]
    obtain ⟨I1, e1, f1, f2, -, f3⟩ := ex_loop (T := T) (g := g) (Q := yQ S) sh shx hR 8 FU 0 o i I (by omega) (by unfold FU; omega) (Or.inl hv) hCT (Or.inl rfl)
    rw [Nat.zero_add] at e1 f2
    refine ⟨I1, T, ?_, ⟨sh, shx, h550, hRm, hnE, ⟨g, CT_ex hE hCT f1⟩, SbC_cg hT (f1 1 (by omega)) (fun tv htv => ?_), SbC_cg hW (f1 3 (by omega)) (fun tv htv => ?_), ⟨f2, fun j hj => ?_⟩, ?_, fun o ho => ?_⟩, KP_row (fun a a1 a2 => f1 a (by omega))⟩
    · unfold f_ex_begin
      rw [gA_t x0, x5, onR_s, ck_t k489, show (0 : Int32) = nI 0 from rfl, e1, cI_x]
    · obtain ⟨tv', t1, t2, t3, -⟩ := hT
      rw [t1] at htv
      cases htv
      exact f1 _ (by omega)
    · obtain ⟨tv', t1, t2, t3, -⟩ := hW
      rw [t1] at htv
      cases htv
      exact f1 _ (by omega)
    · have := f3 j hj
      rw [Nat.zero_add] at this
      exact this
    · obtain ⟨m, q1, q2, q3, q4⟩ := hPl
      refine ⟨m, q1, by rw [f1 488 (by omega)]; exact q2, fun o ho => ?_, fun o ho => ?_⟩
      · have ho' : o ≤ eN (yE S) + 1 := ho
        exact KyC_cg (q3 o ho) (fun a g1 g2 => f1 a (by omega))
      · obtain ⟨x, hx⟩ := q4 o ho
        exact ⟨x, KyC_cg hx (fun a g1 g2 => f1 a (by omega))⟩
    · obtain ⟨l, hl⟩ := hPr o ho
      exact ⟨l, Rng_cg hl (fun a g1 g2 => f1 a (by omega))⟩
theorem m_explain (sh : shM T) (hC : SM S I T) (h : PD S k) (hk : k ≤ 512) (p q : Int32) : ∃ I' T', f_m_explain 492 p q ((I, T) : Mem) = some ((yExpl S p q).1, ((I', T') : Mem)) ∧ SM (yExpl S p q).2 I' T' ∧ MF I T I' T' := by
  have hE := h.1.1
  have n4 := hE.1
  have hR := RO_of h.1 hk
  unfold f_m_explain yExpl
  rw [sh.ck, m_isOp sh hC.1.1, cI_x, b01_cs]
  cases hp : opOk (yE S) p with
  | false =>
    rw [show inOk (yE S) p q = false by unfold inOk; rw [hp]; rfl]
    exact ⟨I, T, rfl, hC, MF_rf⟩
  | true =>
    have hp' := hp
    obtain ⟨o, ho, rfl⟩ := opOk_t n4 hp
    obtain ⟨d1, d2, d3, d4⟩ := hC.1.1.op ho
    have p1 := hE.p1 ho
    have p3 := hE.p3 ho
    rw [if_pos rfl, sh.g6, sh.a497 (by omega), d4, show (1 : Int32) = nI 1 from rfl, pk_sub p1, m_isIn, cI_x, b01_cs]
    have hio : inOk (yE S) (nI o) q = inI q (nI 0) (nI (eP (yE S) o - 1)) := by
      unfold inOk
      rw [hp', Bool.true_and, nI_clamp (by omega)]
    rw [hio]
    cases hq : inI q (nI 0) (nI (eP (yE S) o - 1)) with
    | false =>
      rw [show inI q (0 : Int32) (nI (eP (yE S) o - 1)) = false from hq]
      exact ⟨I, T, rfl, hC, MF_rf⟩
    | true =>
      obtain ⟨i, -, hi', rfl⟩ := inI_rng (a := 0) (b := eP (yE S) o - 1) (by omega) (by omega) hq
      have hv : vS (yE S) o i := ⟨ho, by omega⟩
      rw [show inI (nI i) (0 : Int32) (nI (eP (yE S) o - 1)) = true from hq, if_pos rfl, if_pos rfl, nI_clamp (by omega), nI_clamp (by omega), sh.pI, show (0 : Int32) = nI 0 from rfl]
      have f0 : FE I (u2 I 492 77 (nI 0)) := ⟨fun a a1 _ _ => u2_ne a1, fun j a1 _ => u2_nj rfl a1⟩
      have C0 := FE_MR hC.1 f0
      obtain ⟨I1, e1, f1, f2, -, f3⟩ := mx_loop (T := T) sh hR 7 FU 0 o i (u2 I 492 77 (nI 0)) (by omega) (by unfold FU; omega) hv C0 (u2_at rfl rfl)
      have ff : FE I I1 := ⟨fun a a1 a2 a3 => (f1.1 a a1 a2 a3).trans (f0.1 a a1 a2 a3), fun j a1 a2 => (f1.2 j a1 a2).trans (f0.2 j a1 a2)⟩
      rw [Nat.zero_add] at e1 f2
      refine ⟨I1, T, e1, ⟨FE_MR hC.1 ff, ?_, ?_, ⟨f2, fun j hj => ?_⟩⟩, MF_row (fun a ha => ff.1 a (by omega) (by omega) (by omega))⟩
      · show TxM I1 (yT S)
        have h2 := hC.2.1
        unfold TxM at h2 ⊢
        rw [ff.2 1 (by omega) (by omega), ff.1 493 (by omega) (by omega) (by omega)]
        exact h2
      · show WrM I1 (yW S)
        have h2 := hC.2.2.1
        unfold WrM at h2 ⊢
        rw [ff.2 80 (by omega) (by omega), ff.1 549 (by omega) (by omega) (by omega)]
        exact h2
      · have := f3 j hj
        rw [Nat.zero_add] at this
        exact this
end
