/-! CALLS: readPipeline of the reference, whole -/
def FR (I I' : Iw) : Prop := (∀ a, a ≠ 492 → (a < 535 ∨ 538 < a) → I' a = I a) ∧ ∀ j, j ≠ 60 → j ≠ 61 → I' 492 j = I 492 j
/-- the rows of the operators below m written -/
def Cm (I : Iw) (I' : Iw) (F : Nat → Cf) (m : Nat) : Prop := (∀ a, (a < 494 ∨ 497 < a) → I' a = I a) ∧ (∀ a j, (j < 1 ∨ m ≤ j) → I' a j = I a j) ∧ ∀ o, 1 ≤ o → o < m → I' 494 o = nI (F o).1 ∧ I' 495 o = (F o).2.1 ∧ I' 496 o = (F o).2.2.1 ∧ I' 497 o = nI (F o).2.2.2
section
variable {T T' : Tl} {I I' : Iw} {E E' : Env} {D D' : Dy} {Q Q' : Slow} {S : Sy} {o i j s c r tk k m p : Nat} {l : List Int32} {b b' : Bool}
theorem FR_m (h : Fm s I I') : FR I I' := ⟨h.1, h.2.1⟩
theorem FR_tr {I1 I2 : Iw} (h1 : FR I I1) (h2 : FR I1 I2) : FR I I2 := ⟨fun a h z => (h2.1 a h z).trans (h1.1 a h z), fun j a b => (h2.2 j a b).trans (h1.2 j a b)⟩
theorem km_71 (h : Km l I T p b) (n : Nat) (y : Int32) : f_m_readPipeline_71 (f_m_readPipeline_34 n) 492 y ((I, T) : Mem) = f_m_readPipeline_34 n 492 y 0 ((u2 I 492 60 (nI p), T) : Mem) := by
  have sh := h.1
  unfold f_m_readPipeline_71 f_m_readPipeline_72 f_m_readPipeline_87
  rw [sh.gI, h.2.2.2.2.1, if_pos (show (0 : Int32) = 0 from rfl), show nI p + (0 : Int32) = nI p from Int32.add_zero _, sh.pI]
theorem km_34 : ∀ (d s p n : Nat) (I : Iw), s + (d + 1) = 4 → d + 1 < n → Km l I T p false → ∃ I' s' n' b, f_m_readPipeline_34 n 492 (nI s) 1 ((I, T) : Mem) = f_m_readPipeline_34 (n' + 1) 492 (nI s') 0 ((I', T) : Mem) ∧ s' ≤ 4 ∧ FR I I' ∧ Km l I' T (rdL l (d + 1) p).2.1 b ∧ ((rdL l (d + 1) p).1 = false → b = true) ∧ ((rdL l (d + 1) p).1 = true → (b = true → dgt (sg l (rdL l (d + 1) p).2.1) = true) ∧ (b = false → s' = s + (rdL l (d + 1) p).2.2.length ∧ ∀ j (h : j < (rdL l (d + 1) p).2.2.length), RwM I' (s + 1 + j) (rdL l (d + 1) p).2.2[j])) ∧ ∀ a j, j ≤ s → 535 ≤ a → a < 539 → I' a j = I a j
  | d, s, p, 0, I, _, hn, _ => by omega
  | d, s, p, n + 1, I, hs, hn, h => by
    have sh := h.1
    obtain ⟨I1, e1, F1, b, K1, c1, c2⟩ := km_stage (s := s + 1) h (by omega)
    obtain ⟨n1, rfl⟩ : ∃ n1, n = n1 + 1 := ⟨n - 1, by omega⟩
    have hL : rdL l (d + 1) p = if (rdS l p).1 = false then (false, (rdS l p).2.1, []) else if d = 0 ∨ ¬ sg l (rdS l p).2.1 = 124 then (true, (rdS l p).2.1, [(rdS l p).2.2]) else ((rdL l d ((rdS l p).2.1 + 1)).1, (rdL l d ((rdS l p).2.1 + 1)).2.1, (rdS l p).2.2 :: (rdL l d ((rdS l p).2.1 + 1)).2.2) := rfl
    have e0 : f_m_readPipeline_34 (n1 + 1 + 1) 492 (nI s) 1 ((I, T) : Mem) = if b then f_m_readPipeline_34 (n1 + 1) 492 (nI (s + 1)) 0 ((u2 I1 492 60 (nI (rdS l p).2.1), T) : Mem) else if sg l (rdS l p).2.1 = 124 then (if (4 : Int32) ≤ nI (s + 1) then f_m_readPipeline_34 (n1 + 1) 492 (nI (s + 1)) 0 ((u2 I1 492 60 (nI (rdS l p).2.1), T) : Mem) else f_m_readPipeline_72 (f_m_readPipeline_34 (n1 + 1)) 492 (nI (s + 1)) 1 ((I1, T) : Mem)) else f_m_readPipeline_34 (n1 + 1) 492 (nI (s + 1)) 0 ((u2 I1 492 60 (nI (rdS l p).2.1), T) : Mem) := by
      conv => lhs; unfold f_m_readPipeline_34
      rw [if_neg (show ¬ (1 : Int32) = 0 by decide), sh.ck, show nI s + (1 : Int32) = nI (s + 1) from nI_1 _, e1, cV_x, sh.gI, K1.2.2.2.2.2.1, km_71 K1, b01_cs]
      cases b with
      | true => rw [if_pos (show true = true from rfl), if_pos (show true = true from rfl)]
      | false => rw [if_neg (show ¬ false = true by decide), if_neg (show ¬ false = true by decide), sh.ck, km_here K1, cI_x, km_71 K1]
    have KX : Km l (u2 I1 492 60 (nI (rdS l p).2.1)) T (rdS l p).2.1 b := Km_60 K1 K1.2.2.2.2.2.2
    have FX : Fm (s + 1) I (u2 I1 492 60 (nI (rdS l p).2.1)) := Fm_tr F1 (Fm_6 F6_60)
    rw [e0, hL]
    cases b with
    | true =>
      rw [if_pos (show true = true from rfl)]
      cases hok : (rdS l p).1 with
      | false =>
        rw [if_pos (show false = false from rfl)]
        exact ⟨_, s + 1, n1, true, rfl, by omega, FR_m FX, KX, (fun _ => rfl), (fun z => by cases z), fun a j h1 h2 h3 => FX.2.2 a j (by omega) h2 h3⟩
      | true =>
        have hdg := (c2 hok).1 rfl
        have h124 : ¬ sg l (rdS l p).2.1 = 124 := fun z => by rw [z] at hdg; exact absurd hdg (by decide)
        rw [if_neg (show ¬ true = false by decide), if_pos (Or.inr h124)]
        exact ⟨_, s + 1, n1, true, rfl, by omega, FR_m FX, KX, (fun _ => rfl), (fun _ => ⟨fun _ => hdg, fun z => by cases z⟩), fun a j h1 h2 h3 => FX.2.2 a j (by omega) h2 h3⟩
    | false =>
      have hok : (rdS l p).1 = true := by
        cases hok : (rdS l p).1 with
        | true => rfl
        | false => exact absurd (c1 hok) (by decide)
      have hR := (c2 hok).2 rfl
      rw [if_neg (show ¬ false = true by decide), hok, if_neg (show ¬ true = false by decide)]
      have hRX : RwM (u2 I1 492 60 (nI (rdS l p).2.1)) (s + 1) (rdS l p).2.2 := by
        unfold RwM at hR ⊢
        rw [u2_ne (by omega), u2_ne (by omega), u2_ne (by omega), u2_ne (by omega)]
        exact hR
      have one : ∃ I' s' n' b, f_m_readPipeline_34 (n1 + 1) 492 (nI (s + 1)) 0 ((u2 I1 492 60 (nI (rdS l p).2.1), T) : Mem) = f_m_readPipeline_34 (n' + 1) 492 (nI s') 0 ((I', T) : Mem) ∧ s' ≤ 4 ∧ FR I I' ∧ Km l I' T ((true, (rdS l p).2.1, [(rdS l p).2.2]) : Bool × Nat × List Cf).2.1 b ∧ (((true, (rdS l p).2.1, [(rdS l p).2.2]) : Bool × Nat × List Cf).1 = false → b = true) ∧ (((true, (rdS l p).2.1, [(rdS l p).2.2]) : Bool × Nat × List Cf).1 = true → (b = true → dgt (sg l ((true, (rdS l p).2.1, [(rdS l p).2.2]) : Bool × Nat × List Cf).2.1) = true) ∧ (b = false → s' = s + ((true, (rdS l p).2.1, [(rdS l p).2.2]) : Bool × Nat × List Cf).2.2.length ∧ ∀ j (h : j < ((true, (rdS l p).2.1, [(rdS l p).2.2]) : Bool × Nat × List Cf).2.2.length), RwM I' (s + 1 + j) ((true, (rdS l p).2.1, [(rdS l p).2.2]) : Bool × Nat × List Cf).2.2[j])) ∧ ∀ a j, j ≤ s → 535 ≤ a → a < 539 → I' a j = I a j :=
        ⟨_, s + 1, n1, false, rfl, by omega, FR_m FX, KX, (fun z => by cases z), (fun _ => ⟨fun z => (by cases z), fun _ => ⟨rfl, fun j hj => by
          have hj1 : j < 1 := hj
          have ej : j = 0 := by omega
          subst ej
          exact hRX⟩⟩), fun a j h1 h2 h3 => FX.2.2 a j (by omega) h2 h3⟩
      by_cases h124 : sg l (rdS l p).2.1 = 124
      case neg =>
        rw [if_neg h124, if_pos (Or.inr h124)]
        exact one
      rw [if_pos h124]
      by_cases hd : d = 0
      · rw [if_pos (Or.inl hd), if_pos (show (4 : Int32) ≤ nI (s + 1) from (nI_leI (a := 4) (by omega) (by omega)).mpr (by omega))]
        exact one
      obtain ⟨d', rfl⟩ : ∃ d', d = d' + 1 := ⟨d - 1, by omega⟩
      have hlt : (rdS l p).2.1 < l.length := sg_lt (by rw [h124]; decide)
      have K2 : Km l (u2 I1 492 60 (nI ((rdS l p).2.1 + 1))) T ((rdS l p).2.1 + 1) false := Km_60 K1 hlt
      have F2 : Fm (s + 1) I (u2 I1 492 60 (nI ((rdS l p).2.1 + 1))) := Fm_tr F1 (Fm_6 F6_60)
      obtain ⟨I3, s3, n3, b3, e3, q3, f3, K3, v3, w3, y3⟩ := km_34 d' (s + 1) ((rdS l p).2.1 + 1) (n1 + 1) _ (by omega) (by omega) K2
      have e72 : f_m_readPipeline_72 (f_m_readPipeline_34 (n1 + 1)) 492 (nI (s + 1)) 1 ((I1, T) : Mem) = f_m_readPipeline_34 (n1 + 1) 492 (nI (s + 1)) 1 ((u2 I1 492 60 (nI ((rdS l p).2.1 + 1)), T) : Mem) := by
        unfold f_m_readPipeline_72 f_m_readPipeline_87
        rw [sh.gI, K1.2.2.2.2.1, if_neg (show ¬ (1 : Int32) = 0 by decide), show nI (rdS l p).2.1 + (1 : Int32) = nI ((rdS l p).2.1 + 1) from nI_1 _, sh.pI]
      rw [if_neg (show ¬ (4 : Int32) ≤ nI (s + 1) from fun z => by have := (nI_leI (a := 4) (by omega) (by omega)).mp z; omega), if_neg (fun z => z.elim hd (fun y => y h124)), e72]
      refine ⟨I3, s3, n3, b3, e3, q3, FR_tr (FR_m F2) f3, K3, v3, fun z => ⟨(w3 z).1, fun y => ?_⟩, fun a j h1 h2 h3 => by rw [y3 a j (by omega) h2 h3]; exact F2.2.2 a j (by omega) h2 h3⟩
      obtain ⟨w31, w32⟩ := (w3 z).2 y
      refine ⟨?_, fun j hj => ?_⟩
      · rw [w31]
        show s + 1 + _ = s + ((rdS l p).2.2 :: (rdL l (d' + 1) ((rdS l p).2.1 + 1)).2.2).length
        rw [List.length_cons]
        omega
      · have hj2 : j < ((rdS l p).2.2 :: (rdL l (d' + 1) ((rdS l p).2.1 + 1)).2.2).length := hj
        show RwM I3 (s + 1 + j) ((rdS l p).2.2 :: (rdL l (d' + 1) ((rdS l p).2.1 + 1)).2.2)[j]
        cases j with
        | zero =>
          unfold RwM at hR ⊢
          rw [Nat.add_zero, y3 535 (s + 1) (by omega) (by omega) (by omega), y3 536 (s + 1) (by omega) (by omega) (by omega), y3 537 (s + 1) (by omega) (by omega) (by omega), y3 538 (s + 1) (by omega) (by omega) (by omega), u2_ne (by omega), u2_ne (by omega), u2_ne (by omega), u2_ne (by omega)]
          exact hR
        | succ j =>
          rw [List.length_cons] at hj2
          have := w32 j (by omega)
          rw [show s + 1 + (j + 1) = s + 1 + 1 + j by omega]
          exact this
theorem km_153 (h : Km l I T p b) (s : Nat) : f_m_readPipeline_153 492 (nI s) ((I, T) : Mem) = if b || decide (p < l.length) then some ((-2000 : Int32) - nI p, ((u2 (u2 I 492 61 (nI (b01 (b || decide (p < l.length))))) 492 1 0, T) : Mem)) else f_m_readPipeline_206 FU 492 (nI s) 1 ((u2 (u2 (u2 I 492 61 (nI (b01 (b || decide (p < l.length))))) 492 1 0) 492 2 (nI s), T) : Mem) := by
  have sh := h.1
  have h60 := h.2.2.2.2.1
  have h61 := h.2.2.2.2.2.1
  have hl := h.2.2.2.1
  have hp := h.2.2.2.2.2.2
  have orb : ∀ x y : Bool, nI (b01 x) ||| nI (b01 y) = nI (b01 (x || y)) := by decide
  have e174 : f_m_readPipeline_153 492 (nI s) ((I, T) : Mem) = f_m_readPipeline_174 492 (nI s) (nI (b01 (decide (p < l.length)))) (nI (b01 b)) 492 ((I, T) : Mem) := by
    unfold f_m_readPipeline_153
    rw [sh.gI, h61, sh.gI, h60, sh.gI, h.2.1.1]
    by_cases hz : p < l.length
    · rw [if_neg (fun z => by have := (nI_leI (by omega) (by omega)).mp z; omega), decide_eq_true hz]; rfl
    · rw [if_pos ((nI_leI (by omega) (by omega)).mpr (by omega)), decide_eq_false hz]; rfl
  rw [e174]
  unfold f_m_readPipeline_174
  obtain ⟨w, hw⟩ : ∃ w, w = (b || decide (p < l.length)) := ⟨_, rfl⟩
  have t61 : (u2 (u2 I 492 61 (nI (b01 w))) 492 1 0) 492 61 = nI (b01 w) := by rw [u2_nj rfl (by omega)]; exact u2_at rfl rfl
  have t60 : (u2 (u2 I 492 61 (nI (b01 w))) 492 1 0) 492 60 = nI p := by rw [u2_nj rfl (by omega), u2_nj rfl (by omega)]; exact h60
  rw [orb, ← hw, sh.pZ (show b01 w < 2 by cases w <;> decide), sh.pI, sh.gI, t61, b01_cs, sh.gI, t60, sh.pI]
theorem km_end (h : Km l I T p b) (hs : s ≤ 4) (n : Nat) : ∃ I' q ok, f_m_readPipeline_34 (n + 1) 492 (nI s) 0 ((I, T) : Mem) = (if ok = true then f_m_readPipeline_206 FU 492 (nI s) 1 ((u2 I' 492 2 (nI s), T) : Mem) else some ((-2000 : Int32) - nI q, ((I', T) : Mem))) ∧ (b = true → ok = false ∧ q = p) ∧ (b = false → ∀ cs, ok = (rdE l p cs).1 ∧ q = (rdE l p cs).2.1 ∧ (ok = true → (rdE l p cs).2.2.1 = cs ∧ I' 538 (s + 1) = nI (rdE l p cs).2.2.2)) ∧ (∀ a, a ≠ 492 → a ≠ 538 → I' a = I a) ∧ (∀ j, j ≠ s + 1 → I' 538 j = I 538 j) ∧ (∀ j, j ≠ 1 → j ≠ 60 → j ≠ 61 → I' 492 j = I 492 j) ∧ I' 492 1 = nI 0 := by
  have sh := h.1
  have hc := h.2.2.1
  obtain ⟨J, hJ⟩ : ∃ J, J = u2 I 538 (s + 1) 1 := ⟨_, rfl⟩
  have KJ : Km l J T p b := by rw [hJ]; exact Km_w h (by omega)
  have J8 : J 538 (s + 1) = nI 1 := by rw [hJ]; exact u2_at rfl rfl
  have fJ : ∀ a, a ≠ 538 → J a = I a := fun a ha => by rw [hJ]; exact u2_ne ha
  have fJ8 : ∀ j, j ≠ s + 1 → J 538 j = I 538 j := fun j hj => by rw [hJ]; exact u2_nj rfl hj
  have fin : ∀ {X : Iw} {q : Nat} {w : Bool}, Km l X T q w → (∀ a, a ≠ 492 → a ≠ 538 → X a = I a) → (∀ j, j ≠ s + 1 → X 538 j = I 538 j) → (∀ j, j ≠ 60 → j ≠ 61 → X 492 j = I 492 j) → (b = true → (!(w || decide (q < l.length))) = false ∧ q = p) → (b = false → ∀ cs, (!(w || decide (q < l.length))) = (rdE l p cs).1 ∧ q = (rdE l p cs).2.1 ∧ ((!(w || decide (q < l.length))) = true → (rdE l p cs).2.2.1 = cs ∧ X 538 (s + 1) = nI (rdE l p cs).2.2.2)) → ∃ I' q ok, f_m_readPipeline_153 492 (nI s) ((X, T) : Mem) = (if ok = true then f_m_readPipeline_206 FU 492 (nI s) 1 ((u2 I' 492 2 (nI s), T) : Mem) else some ((-2000 : Int32) - nI q, ((I', T) : Mem))) ∧ (b = true → ok = false ∧ q = p) ∧ (b = false → ∀ cs, ok = (rdE l p cs).1 ∧ q = (rdE l p cs).2.1 ∧ (ok = true → (rdE l p cs).2.2.1 = cs ∧ I' 538 (s + 1) = nI (rdE l p cs).2.2.2)) ∧ (∀ a, a ≠ 492 → a ≠ 538 → I' a = I a) ∧ (∀ j, j ≠ s + 1 → I' 538 j = I 538 j) ∧ (∀ j, j ≠ 1 → j ≠ 60 → j ≠ 61 → I' 492 j = I 492 j) ∧ I' 492 1 = nI 0 := fun {X q w} K g1 g2 g3 r1 r2 => by
    refine ⟨u2 (u2 X 492 61 (nI (b01 (w || decide (q < l.length))))) 492 1 0, q, !(w || decide (q < l.length)), ?_, r1, fun z cs => ?_, fun a a1 a2 => ?_, fun j hj => ?_, fun j j1 j2 j3 => ?_, u2_at rfl rfl⟩
    · rw [km_153 K]
      cases (w || decide (q < l.length)) with
      | true => rw [if_pos (show true = true from rfl), if_neg (show ¬ (!true) = true by decide)]
      | false => rw [if_neg (show ¬ false = true by decide), if_pos (show (!false) = true from rfl)]
    · rw [u2_ne (by omega), u2_ne (by omega)]; exact r2 z cs
    · rw [u2_ne a1, u2_ne a1]; exact g1 a a1 a2
    · rw [u2_ne (by omega), u2_ne (by omega)]; exact g2 j hj
    · rw [u2_nj rfl j1, u2_nj rfl j3]; exact g3 j j2 j3
  unfold f_m_readPipeline_34 f_m_readPipeline_113
  rw [if_pos (show (0 : Int32) = 0 from rfl), sh.g65, show nI s + (1 : Int32) = nI (s + 1) from nI_1 _, if_neg (show ¬ (6 : Int32) ≤ nI (s + 1) from fun z => by have := (nI_leI (a := 6) (by omega) (by omega)).mp z; omega), sh.s538 (by omega), ← hJ, sh.gI, KJ.2.2.2.2.2.1, b01_cs]
  cases hb : b with
  | true =>
    rw [hb] at KJ
    rw [if_pos (show true = true from rfl)]
    rw [hb] at fin
    exact fin KJ (fun a _ h2 => fJ a h2) fJ8 (fun j _ _ => by rw [fJ 492 (by omega)]) (fun _ => ⟨rfl, rfl⟩) (fun z => by cases z)
  | false =>
    rw [hb] at KJ fin
    rw [if_neg (show ¬ false = true by decide), sh.ck, km_here KJ, cI_x]
    have nb : ∀ x, (!(false || decide (x < l.length))) = decide (sg l x < 0) := fun x => by
      by_cases hz : x < l.length
      · rw [decide_eq_true hz, decide_eq_false (fun z => (sg_neg hc).mp z hz)]; rfl
      · rw [decide_eq_false hz, decide_eq_true ((sg_neg hc).mpr hz)]; rfl
    by_cases h36 : sg l p = 36
    case neg =>
      rw [if_neg h36]
      have hE : ∀ cs, rdE l p cs = (decide (sg l p < 0), p, cs, 1) := fun cs => if_neg h36
      exact fin KJ (fun a _ h2 => fJ a h2) fJ8 (fun j _ _ => by rw [fJ 492 (by omega)]) (fun z => by cases z) (fun _ cs => by rw [hE, nb]; exact ⟨rfl, rfl, fun _ => ⟨rfl, J8⟩⟩)
    have K1 := Km_60 KJ (q := p + 1) (sg_lt (by rw [h36]; decide))
    obtain ⟨I2, v, e2, f2, K2, v2⟩ := km_inst K1
    rw [if_pos h36, sh.gI, KJ.2.2.2.2.1, show nI p + (1 : Int32) = nI (p + 1) from nI_1 _, sh.pI, sh.g65, sh.ck, e2, cI_x, sh.s538 (by omega)]
    have K3 : Km l (u2 I2 538 (s + 1) v) T (fin1 l (p + 1)).1 (!dg3 (sg l (p + 1))) := Km_w K2 (by omega)
    refine fin K3 (fun a h1 h2 => ?_) (fun j hj => ?_) (fun j j1 j2 => ?_) (fun z => by cases z) (fun _ cs => ?_)
    · rw [u2_ne h2, f2.1 a h1, u2_ne h1]; exact fJ a h2
    · rw [u2_nj rfl hj, f2.1 538 (by omega), u2_ne (by omega)]; exact fJ8 j hj
    · rw [u2_ne (by omega), f2.2 j j1 j2, u2_nj rfl j1, fJ 492 (by omega)]
    · have hE : rdE l p cs = if dg3 (sg l (p + 1)) = false then (false, p + 1, [], 1) else (decide (sg l (p + 1 + 1) < 0), p + 1 + 1, cs, (sg l (p + 1) - 48).toNatClampNeg) := if_pos h36
      have hf : fin1 l (p + 1) = if dg3 (sg l (p + 1)) then (p + 1 + 1, (sg l (p + 1) - 48).toNatClampNeg) else (p + 1, 1) := rfl
      have u : (u2 I2 538 (s + 1) v) 538 (s + 1) = v := u2_at rfl rfl
      rw [hE, u]
      cases hd : dg3 (sg l (p + 1)) with
      | false =>
        rw [hd, if_neg (show ¬ false = true by decide)] at hf
        rw [hf, if_pos (show false = false from rfl)]
        exact ⟨rfl, rfl, fun z => by cases z⟩
      | true =>
        have v3 := v2 hd
        rw [hd, if_pos (show true = true from rfl)] at hf
        rw [hf] at v3
        rw [hf, if_neg (show ¬ true = false by decide)]
        refine ⟨nb _, rfl, fun _ => ⟨rfl, v3⟩⟩
end
