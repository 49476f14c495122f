/-! CALLS: readPipeline of the reference, its end -/
section
variable {T T' : Tl} {I I' : Iw} {E E' : Env} {D D' : Dy} {Q Q' : Slow} {S : Sy} {o i j s c r tk k m p : Nat} {l : List Int32} {b b' : Bool}
theorem Cm_step {F : Nat → Cf} (h1 : 1 ≤ m) (h : Cm I I' F m) : Cm I (u2 (u2 (u2 (u2 I' 494 m (nI (F m).1)) 495 m (F m).2.1) 496 m (F m).2.2.1) 497 m (nI (F m).2.2.2)) F (m + 1) := by
  obtain ⟨g1, g2, g3⟩ := h
  refine ⟨fun a ha => ?_, fun a j hj => ?_, fun o h1' ho => ?_⟩
  · rw [u2_ne (by omega), u2_ne (by omega), u2_ne (by omega), u2_ne (by omega)]; exact g1 a ha
  · have st : ∀ (X : Iw) (x : Nat) (v : Int32), u2 X x m v a j = X a j := fun X x v => by
      by_cases hz : a = x
      · exact u2_nj hz (by omega)
      · rw [u2_ne hz]
    rw [st, st, st, st]; exact g2 a j (by omega)
  · by_cases hz : o = m
    · subst hz
      refine ⟨?_, ?_, ?_, u2_at rfl rfl⟩
      · rw [u2_ne (by omega), u2_ne (by omega), u2_ne (by omega)]; exact u2_at rfl rfl
      · rw [u2_ne (by omega), u2_ne (by omega)]; exact u2_at rfl rfl
      · rw [u2_ne (by omega)]; exact u2_at rfl rfl
    · obtain ⟨w1, w2, w3, w4⟩ := g3 o h1' (by omega)
      refine ⟨?_, ?_, ?_, ?_⟩
      · rw [u2_ne (by omega), u2_ne (by omega), u2_ne (by omega), u2_nj rfl hz]; exact w1
      · rw [u2_ne (by omega), u2_ne (by omega), u2_nj rfl hz, u2_ne (by omega)]; exact w2
      · rw [u2_ne (by omega), u2_nj rfl hz, u2_ne (by omega), u2_ne (by omega)]; exact w3
      · rw [u2_nj rfl hz, u2_ne (by omega), u2_ne (by omega), u2_ne (by omega)]; exact w4
theorem km_206 (sh : shM T) {F : Nat → Cf} {N n : Nat} (hN : N ≤ 4) (hR : ∀ j, 1 ≤ j → j ≤ N → RwM I j (F j)) (h8 : I 538 (N + 1) = nI n) (hF : F (N + 1) = (8, 0, 0, n)) : ∀ (d n' i : Nat) (J : Iw), i + d = N + 1 → 1 ≤ i → d < n' → Cm I J F i → ∃ J', f_m_readPipeline_206 n' 492 (nI N) (nI i) ((J, T) : Mem) = (cV (f_m_begins 492 ((J', T) : Mem)) fun M => some (nI N, M)) ∧ Cm I J' F (N + 2)
  | d, 0, i, J, _, _, hn, _ => by omega
  | 0, n' + 1, i, J, hi, h1, hn, hC => by
    have e : i = N + 1 := by omega
    subst e
    have hS := Cm_step (m := N + 1) (by omega) hC
    rw [hF] at hS
    have g8 : (u2 (u2 (u2 J 494 (N + 1) 8) 495 (N + 1) 0) 496 (N + 1) 0) 538 (N + 1) = nI n := by rw [u2_ne (by omega), u2_ne (by omega), u2_ne (by omega), hC.1 538 (by omega)]; exact h8
    refine ⟨_, ?_, hS⟩
    unfold f_m_readPipeline_206
    rw [if_pos (show nI N < nI (N + 1) from (nI_ltI (by omega) (by omega)).mpr (by omega)), show nI N + (1 : Int32) = nI (N + 1) from nI_1 _, sh.g3, sh.s494 (by omega), sh.g4, sh.s495 (by omega), sh.g5, sh.s496 (by omega), sh.g6, sh.g65, sh.a538 (by omega), g8, sh.s497 (by omega), sh.ck]
    rfl
  | d + 1, n' + 1, i, J, hi, h1, hn, hC => by
    obtain ⟨w1, w2, w3, w4⟩ := hR i h1 (by omega)
    have gJ : ∀ a, 497 < a → J a = I a := fun a ha => hC.1 a (by omega)
    obtain ⟨J', e1, C1⟩ := km_206 sh hN hR h8 hF d n' (i + 1) _ (by omega) (by omega) (by omega) (Cm_step h1 hC)
    refine ⟨J', ?_, C1⟩
    rw [← e1]
    conv => lhs; unfold f_m_readPipeline_206
    rw [if_neg (show ¬ nI N < nI i from fun z => by have := (nI_ltI (by omega) (by omega)).mp z; omega), sh.g3, sh.g62, sh.a535 (by omega), gJ 535 (by omega), w1, sh.s494 (by omega), sh.g4, sh.g63, sh.a536 (by omega), u2_ne (show (536 : Nat) ≠ 494 by omega), gJ 536 (by omega), w2, sh.s495 (by omega), sh.g5, sh.g64, sh.a537 (by omega), u2_ne (show (537 : Nat) ≠ 495 by omega), u2_ne (show (537 : Nat) ≠ 494 by omega), gJ 537 (by omega), w3, sh.s496 (by omega), sh.g6, sh.g65, sh.a538 (by omega), u2_ne (show (538 : Nat) ≠ 496 by omega), u2_ne (show (538 : Nat) ≠ 495 by omega), u2_ne (show (538 : Nat) ≠ 494 by omega), gJ 538 (by omega), w4, sh.s497 (by omega), show nI i + (1 : Int32) = nI (i + 1) from nI_1 _]
theorem MR_cf {cs : List Cf} {n : Nat} (h : MR E D Q r tk I T) (f : ∀ a, 498 ≤ a → a < 535 → I' a = I a) (fj : ∀ j, 3 ≤ j → j ≤ 58 → I' 492 j = I 492 j) (h2 : I' 492 2 = nI cs.length) (hr : ∀ o, o ≤ cs.length + 1 → I' 494 o = nI (ncf cs n E o).1 ∧ I' 495 o = (ncf cs n E o).2.1 ∧ I' 496 o = (ncf cs n E o).2.2.1 ∧ I' 497 o = nI (ncf cs n E o).2.2.2) : MR (nE E cs n) D Q r tk I' T := by
  obtain ⟨⟨c1, c2, c3, c4, c5, c6, c7, c8⟩, q2, q3, q4, q5, q6, q7, q8, q9⟩ := h
  refine ⟨⟨h2, (fj _ (by omega) (by omega)).trans c2, (fj _ (by omega) (by omega)).trans c3, (fj _ (by omega) (by omega)).trans c4, (fj _ (by omega) (by omega)).trans c5, (fj _ (by omega) (by omega)).trans c6, hr, ?_⟩, ChsM_cg q2 (fun a _ _ => f a (by omega) (by omega)), InsM_cg q3 (fun a _ => f a (by omega) (by omega)), KyM_cg q4 (f _ (by omega) (by omega)) (f _ (by omega) (by omega)) (f _ (by omega) (by omega)), StM_cg q5 (fun a _ _ => f a (by omega) (by omega)), ScM_cg (E := nE E cs n) q6 (fun j _ => fj j (by omega) (by omega)), LaM_cg q7 (f _ (by omega) (by omega)) (fj _ (by omega) (by omega)), RuM_cg q8 (fun a _ => f a (by omega) (by omega)), VsM_cg q9 (fun a _ => f a (by omega) (by omega)) (fun j _ => fj j (by omega) (by omega))⟩
  rw [f 498 (by omega) (by omega), f 499 (by omega) (by omega)]
  exact c8
theorem m_read (sh : shM T) (hC : SM S I T) (h : PD S k) : ∃ I' T', f_m_readPipeline 492 ((I, T) : Mem) = some ((yRead S).1, ((I', T') : Mem)) ∧ SM (yRead S).2 I' T' ∧ MF I T I' T' := by
  obtain ⟨hlen, hck⟩ := h.2.2.1
  obtain ⟨hM, hT, hW, hX⟩ := hC
  obtain ⟨J, hJ⟩ : ∃ J, J = u2 (u2 I 492 60 (nI 0)) 492 61 (nI (b01 false)) := ⟨_, rfl⟩
  have KJ : Km (yT S) J T 0 false := by
    refine ⟨sh, ?_, hck, hlen, ?_, ?_, Nat.zero_le _⟩
    · unfold TxM at hT ⊢
      rw [hJ, u2_nj rfl (by omega), u2_nj rfl (by omega), u2_ne (by omega), u2_ne (by omega)]
      exact hT
    · rw [hJ, u2_nj rfl (by omega)]; exact u2_at rfl rfl
    · rw [hJ]; exact u2_at rfl rfl
  have FJ : FR I J := by rw [hJ]; exact FR_m (s := 0) (Fm_6 (F6_tr F6_60 F6_61))
  -- the stages
  have head : ∃ I1 s' n' b, f_m_readPipeline 492 ((I, T) : Mem) = f_m_readPipeline_34 (n' + 1) 492 (nI s') 0 ((I1, T) : Mem) ∧ s' ≤ 4 ∧ FR I I1 ∧ Km (yT S) I1 T (rdH (yT S)).2.1 b ∧ ((rdH (yT S)).1 = false → b = true) ∧ ((rdH (yT S)).1 = true → (b = true → dgt (sg (yT S) (rdH (yT S)).2.1) = true) ∧ (b = false → s' = (rdH (yT S)).2.2.length ∧ ∀ j (h : j < (rdH (yT S)).2.2.length), RwM I1 (1 + j) (rdH (yT S)).2.2[j])) := by
    have none0 : (sg (yT S) 0 = 36 ∨ sg (yT S) 0 < 0) → ∃ I1 s' n' b, f_m_readPipeline_32 492 0 ((J, T) : Mem) = f_m_readPipeline_34 (n' + 1) 492 (nI s') 0 ((I1, T) : Mem) ∧ s' ≤ 4 ∧ FR I I1 ∧ Km (yT S) I1 T (rdH (yT S)).2.1 b ∧ ((rdH (yT S)).1 = false → b = true) ∧ ((rdH (yT S)).1 = true → (b = true → dgt (sg (yT S) (rdH (yT S)).2.1) = true) ∧ (b = false → s' = (rdH (yT S)).2.2.length ∧ ∀ j (h : j < (rdH (yT S)).2.2.length), RwM I1 (1 + j) (rdH (yT S)).2.2[j])) := fun hz => by
      have hH : rdH (yT S) = (true, 0, []) := if_pos hz
      rw [hH]
      exact ⟨J, 0, 199999, false, rfl, by omega, FJ, KJ, (fun z => by cases z), fun _ => ⟨(fun z => by cases z), fun _ => ⟨rfl, fun j hj => absurd hj (Nat.not_lt_zero _)⟩⟩⟩
    have t1 : J 492 1 = nI (yT S).length := KJ.2.1.1
    unfold f_m_readPipeline
    rw [sh.pI, show (0 : Int32) = nI (b01 false) from rfl, sh.pZ (show b01 false < 2 by decide), show nI (b01 false) = nI 0 from rfl, show u2 (u2 I 492 60 (nI 0)) 492 61 (nI 0) = J from hJ.symm, sh.gI, t1]
    by_cases h0 : nI (yT S).length ≤ nI 0
    · rw [if_pos h0]
      exact none0 (Or.inr ((sg_neg hck).mpr (by have := (nI_leI (by omega) (by omega)).mp h0; omega)))
    rw [if_neg h0, sh.ck, km_here KJ, cI_x]
    by_cases h36 : sg (yT S) 0 = 36
    · rw [if_pos h36]; exact none0 (Or.inl h36)
    have hneg : ¬ sg (yT S) 0 < 0 := fun z => h0 ((nI_leI (by omega) (by omega)).mpr (by have := (sg_neg hck).mp z; omega))
    have hH : rdH (yT S) = rdL (yT S) 4 0 := if_neg (fun z => z.elim h36 hneg)
    obtain ⟨I1, s', n', b, e1, q1, f1, K1, v1, w1, -⟩ := km_34 (T := T) 3 0 0 FU J (by omega) (by unfold FU; omega) KJ
    rw [if_neg h36, hH]
    refine ⟨I1, s', n', b, e1, q1, FR_tr FJ f1, K1, v1, fun z => ⟨(w1 z).1, fun y => ?_⟩⟩
    obtain ⟨w2, w3⟩ := (w1 z).2 y
    rw [Nat.zero_add] at w2 w3
    exact ⟨w2, w3⟩
  obtain ⟨I1, s', n', b, e1, q1, f1, K1, v1, w1⟩ := head
  obtain ⟨I2, q, ok, e2, r1, r2, g1, g2, g3, g4⟩ := km_end K1 q1 n'
  have hA : rdA (yT S) = if (rdH (yT S)).1 = false then (false, (rdH (yT S)).2.1, [], 1) else rdE (yT S) (rdH (yT S)).2.1 (rdH (yT S)).2.2 := rdA_e
  have key : ok = (rdA (yT S)).1 ∧ q = (rdA (yT S)).2.1 ∧ (ok = true → (rdA (yT S)).2.2.1 = (rdH (yT S)).2.2 ∧ s' = (rdH (yT S)).2.2.length ∧ (∀ j (h : j < (rdH (yT S)).2.2.length), RwM I1 (1 + j) (rdH (yT S)).2.2[j]) ∧ I2 538 (s' + 1) = nI (rdA (yT S)).2.2.2) := by
    rw [hA]
    cases hok : (rdH (yT S)).1 with
    | false =>
      obtain ⟨x1, x2⟩ := r1 (v1 hok)
      rw [if_pos (show false = false from rfl)]
      exact ⟨x1, x2, fun z => by rw [x1] at z; cases z⟩
    | true =>
      rw [if_neg (show ¬ true = false by decide)]
      obtain ⟨w2, w3⟩ := w1 hok
      cases hb : b with
      | true =>
        obtain ⟨x1, x2⟩ := r1 hb
        have hdg := w2 hb
        have h36 : ¬ sg (yT S) (rdH (yT S)).2.1 = 36 := fun z => by rw [z] at hdg; exact absurd hdg (by decide)
        have hE : rdE (yT S) (rdH (yT S)).2.1 (rdH (yT S)).2.2 = (decide (sg (yT S) (rdH (yT S)).2.1 < 0), (rdH (yT S)).2.1, (rdH (yT S)).2.2, 1) := if_neg h36
        rw [hE, decide_eq_false (fun z => (sg_neg hck).mp z (sg_lt (dgt_m hdg)))]
        exact ⟨x1, x2, fun z => by rw [x1] at z; cases z⟩
      | false =>
        obtain ⟨x1, x2, x3⟩ := r2 hb (rdH (yT S)).2.2
        obtain ⟨y1, y2⟩ := w3 hb
        exact ⟨x1, x2, fun z => ⟨(x3 z).1, y1, y2, (x3 z).2⟩⟩
  obtain ⟨k1, k2, k3⟩ := key
  have fa : ∀ a, a ≠ 492 → (a < 535 ∨ 538 < a) → I2 a = I a := fun a a1 a2 => by rw [g1 a a1 (by omega), f1.1 a a1 a2]
  have fj : ∀ j, j ≠ 1 → j ≠ 60 → j ≠ 61 → I2 492 j = I 492 j := fun j j1 j2 j3 => by rw [g3 j j1 j2 j3, f1.2 j j2 j3]
  rw [e1, e2]
  unfold yRead
  rw [← k1, ← k2]
  cases hok : ok with
  | false =>
    rw [if_neg (show ¬ false = true by decide), if_neg (show ¬ false = true by decide)]
    refine ⟨I2, T, rfl, ⟨MR_k hM (fun a a1 a2 => fa a (by omega) (by omega)) (fun j j1 j2 => fj j (by omega) (by omega) (by omega)), ⟨g4, fun j hj => absurd hj (Nat.not_lt_zero _)⟩, ?_, ?_⟩, MF_row (fun a ha => fa a (by omega) (by omega))⟩
    · show WrM I2 (yW S)
      unfold WrM at hW ⊢
      rw [fj 80 (by omega) (by omega) (by omega), fa 549 (by omega) (by omega)]
      exact hW
    · show ExM I2 (yX S)
      unfold ExM at hX ⊢
      rw [fj 77 (by omega) (by omega) (by omega), fa 547 (by omega) (by omega), fa 548 (by omega) (by omega)]
      exact hX
  | true =>
    obtain ⟨y1, y2, y3, y4⟩ := k3 hok
    obtain ⟨a1, a2, a3, a4⟩ := rdA_ok hck (k1.symm.trans hok)
    rw [if_pos (show true = true from rfl), if_pos (show true = true from rfl)]
    obtain ⟨cs, hcs⟩ : ∃ cs, cs = (rdA (yT S)).2.2.1 := ⟨_, rfl⟩
    obtain ⟨n, hn⟩ : ∃ n, n = (rdA (yT S)).2.2.2 := ⟨_, rfl⟩
    rw [← hcs] at y1 a1 a2 ⊢
    rw [← hn] at y4 a3 a4 ⊢
    have y2' : s' = cs.length := by rw [y1]; exact y2
    subst y2'
    obtain ⟨J2, hJ2⟩ : ∃ J2, J2 = u2 I2 492 2 (nI cs.length) := ⟨_, rfl⟩
    have gJ2 : ∀ a, a ≠ 492 → J2 a = I2 a := fun a ha => by rw [hJ2]; exact u2_ne ha
    have hR2 : ∀ j, 1 ≤ j → j ≤ cs.length → RwM J2 j (ncf cs n (yE S) j) := fun j j1 j2 => by
      have hF : ncf cs n (yE S) j = cs[j - 1]'(by omega) := by
        unfold ncf
        rw [if_neg (by omega), if_pos (by omega), List.getD_eq_getElem?_getD, List.getElem?_eq_getElem (by omega)]
        rfl
      have hj3 : j - 1 < (rdH (yT S)).2.2.length := by rw [← y1]; omega
      have := y3 (j - 1) hj3
      rw [show 1 + (j - 1) = j by omega] at this
      have hcj : cs[j - 1]'(by omega) = (rdH (yT S)).2.2[j - 1]'hj3 := by simp only [y1]
      rw [hF, hcj]
      unfold RwM at this ⊢
      rw [gJ2 535 (by omega), gJ2 536 (by omega), gJ2 537 (by omega), gJ2 538 (by omega), g1 535 (by omega) (by omega), g1 536 (by omega) (by omega), g1 537 (by omega) (by omega), g2 j (by omega)]
      exact this
    have hF1 : ncf cs n (yE S) (cs.length + 1) = (8, 0, 0, n) := by
      unfold ncf
      rw [if_neg (by omega), if_neg (by omega)]
    obtain ⟨J3, e3, C3⟩ := km_206 (T := T) (I := J2) sh a1 hR2 (by rw [gJ2 538 (by omega)]; exact y4) hF1 cs.length FU 1 J2 (by omega) (by omega) (by unfold FU; omega) ⟨fun _ _ => rfl, fun _ _ _ => rfl, fun o h1 h2 => by omega⟩
    have fa3 : ∀ a, a ≠ 492 → (a < 494 ∨ 497 < a) → (a < 535 ∨ 538 < a) → J3 a = I a := fun a b1 b2 b3 => by rw [C3.1 a b2, gJ2 a b1, fa a b1 b3]
    have fj3 : ∀ j, j ≠ 1 → j ≠ 2 → j ≠ 60 → j ≠ 61 → J3 492 j = I 492 j := fun j j1 j2 j3 j4 => by rw [C3.1 492 (by omega), hJ2, u2_nj rfl j2, fj j j1 j3 j4]
    have hM3 : MR (nE (yE S) cs n) (yD S) (yQ S) (eQ (yE S)) (eT (yE S)) J3 T := by
      refine MR_cf hM (fun a b1 b2 => fa3 a (by omega) (by omega) (by omega)) (fun j b1 b2 => fj3 j (by omega) (by omega) (by omega) (by omega)) ?_ (fun o ho => ?_)
      · rw [C3.1 492 (by omega), hJ2]; exact u2_at rfl rfl
      · by_cases h0 : o = 0
        · subst h0
          rw [C3.2.1 494 0 (by omega), C3.2.1 495 0 (by omega), C3.2.1 496 0 (by omega), C3.2.1 497 0 (by omega), gJ2 494 (by omega), gJ2 495 (by omega), gJ2 496 (by omega), gJ2 497 (by omega), fa 494 (by omega) (by omega), fa 495 (by omega) (by omega), fa 496 (by omega) (by omega), fa 497 (by omega) (by omega)]
          have := hM.1.2.2.2.2.2.2.1 0 (by omega)
          unfold ncf
          rw [if_pos rfl]
          exact this
        · exact C3.2.2 o (by omega) (by omega)
    obtain ⟨I4, T4, e4, C4, F4, J4⟩ := m_begins sh hM3
    have e206 : f_m_readPipeline_206 FU 492 (nI cs.length) 1 ((u2 I2 492 2 (nI cs.length), T) : Mem) = some (nI cs.length, ((I4, T4) : Mem)) := by
      rw [← hJ2, show (1 : Int32) = nI 1 from rfl, e3, e4, cV_x]
    rw [e206]
    refine ⟨I4, T4, rfl, ⟨C4, ⟨?_, fun j hj => absurd hj (Nat.not_lt_zero _)⟩, ?_, ?_⟩, fun a ha => ?_, J4⟩
    · rw [F4.2 1 (by omega), C3.1 492 (by omega), hJ2, u2_nj rfl (by omega)]; exact g4
    · show WrM I4 (yW S)
      unfold WrM at hW ⊢
      rw [F4.2 80 (by omega), F4.1 549 (by omega) (by omega), fj3 80 (by omega) (by omega) (by omega) (by omega), fa3 549 (by omega) (by omega) (by omega)]
      exact hW
    · show ExM I4 (yX S)
      unfold ExM at hX ⊢
      rw [F4.2 77 (by omega), F4.1 547 (by omega) (by omega), F4.1 548 (by omega) (by omega), fj3 77 (by omega) (by omega) (by omega) (by omega), fa3 547 (by omega) (by omega) (by omega), fa3 548 (by omega) (by omega) (by omega)]
      exact hX
    · rw [F4.1 a (by omega) (by omega), fa3 a (by omega) (by omega) (by omega)]
end
