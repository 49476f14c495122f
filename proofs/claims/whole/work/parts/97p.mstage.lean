/-! CALLS: readPipeline: the reference reads a stage, whole -/
section
variable {T T' : Tl} {I I' : Iw} {E E' : Env} {D D' : Dy} {Q Q' : Slow} {S : Sy} {o i j s c r tk k m p : Nat} {l : List Int32} {b b' : Bool}
theorem inI_bd {v : Int32} (h1 : -99 ≤ v.toInt) (h2 : v.toInt ≤ 99) : inI v (-99) 99 = true := by
  have t1 : (-99 : Int32).toInt = -99 := by decide
  have t2 : (99 : Int32).toInt = 99 := by decide
  unfold inI
  rw [decide_eq_false (show ¬ v < (-99 : Int32) from fun z => by
    rw [Int32.lt_iff_toInt_lt, t1] at z
    omega), decide_eq_false (show ¬ (99 : Int32) < v from fun z => by
    rw [Int32.lt_iff_toInt_lt, t2] at z
    omega)]
  rfl
theorem km_198 {a bv : Int32} {kd : Nat} {I0 X : Iw} (h : Km l X T p false) (hs : s < 6) (F : Fm s I0 X) (x5 : X 535 s = nI kd) (x6 : X 536 s = a) (x7 : X 537 s = bv) (x8 : X 538 s = nI 1) : ∃ I', f_m_stage_198 492 (nI s) ((X, T) : Mem) = some ((I', T) : Mem) ∧ Fm s I0 I' ∧ StO l s (if ¬ sg l p = 41 then (false, p, 0, 0, 0, 0) else (true, (fin1 l (p + 1)).1, kd, a, bv, (fin1 l (p + 1)).2)) I' T := by
  have sh := h.1
  have h61 := h.2.2.2.2.2.1
  obtain ⟨I1, e1, f1, K1⟩ := km_sign (c := 41) h (by decide)
  unfold f_m_stage_198
  rw [sh.gI, h61, if_pos bf0, sh.ck, e1, cV_x]
  by_cases h41 : sg l p = 41
  · rw [show sk l p 41 = p + 1 from if_pos h41, decide_eq_true h41] at K1
    have K2 : Km l I1 T (p + 1) false := K1
    obtain ⟨I2, e2, f2, ⟨w5, w6, w7⟩, b, K3, v1, v2⟩ := km_211 K2 hs (by rw [f1.1 538 (by omega)]; exact x8)
    rw [if_neg (show ¬ ¬ sg l p = 41 from fun z => z h41)]
    refine ⟨I2, e2, Fm_tr F (Fm_tr (Fm_6 f1) f2), b, K3, (fun z => by cases z), fun _ => ⟨v1, fun z => ⟨?_, ?_, ?_, v2 z⟩⟩⟩
    · rw [w5, f1.1 535 (by omega)]; exact x5
    · rw [w6, f1.1 536 (by omega)]; exact x6
    · rw [w7, f1.1 537 (by omega)]; exact x7
  · rw [show sk l p 41 = p from if_neg h41, decide_eq_false h41] at K1
    have K2 : Km l I1 T p true := K1
    rw [if_pos (show ¬ sg l p = 41 from h41), (km_t K2 (nI s) 0).1]
    exact ⟨I1, rfl, Fm_tr F (Fm_6 f1), true, K2, fun _ => rfl, fun z => by cases z⟩
/-- the bounds of a letter's first number -/
theorem km_rng (M : Mem) {kd : Nat} (hk : kd < 5) (x : Int32) : ∃ lo hi : Int32, (if nI kd = (1 : Int32) then f_m_stage_106 492 x (nI kd) 492 x 536 M else if nI kd = (3 : Int32) then f_m_stage_106 492 x (nI kd) 492 x 536 M else if nI kd = (4 : Int32) then f_m_stage_121 492 x (nI kd) (1 : Int32) 492 x 536 M else f_m_stage_121 492 x (nI kd) (-99 : Int32) 492 x 536 M) = f_m_stage_150 492 x (nI kd) hi lo 492 x 536 M ∧ ∀ v : Int32, -99 ≤ v.toInt → v.toInt ≤ 99 → inI v lo hi = rng kd v := by
  unfold f_m_stage_106 f_m_stage_121 rng
  rcases (by omega : kd = 0 ∨ kd = 1 ∨ kd = 2 ∨ kd = 3 ∨ kd = 4) with rfl | rfl | rfl | rfl | rfl
  · refine ⟨-99, 99, ?_, fun v h1 h2 => ?_⟩
    · simp only [if_neg (show ¬ nI 0 = (1 : Int32) by decide), if_neg (show ¬ nI 0 = (3 : Int32) by decide), if_neg (show ¬ nI 0 = (4 : Int32) by decide)]
    · rw [inI_bd h1 h2]; rfl
  · refine ⟨0, 2, ?_, fun v h1 h2 => ?_⟩
    · simp only [if_pos (show nI 1 = (1 : Int32) by decide)]
    · rfl
  · refine ⟨-99, 99, ?_, fun v h1 h2 => ?_⟩
    · simp only [if_neg (show ¬ nI 2 = (1 : Int32) by decide), if_neg (show ¬ nI 2 = (3 : Int32) by decide), if_neg (show ¬ nI 2 = (4 : Int32) by decide)]
    · rw [inI_bd h1 h2]; rfl
  · refine ⟨0, 3, ?_, fun v h1 h2 => ?_⟩
    · simp only [if_neg (show ¬ nI 3 = (1 : Int32) by decide), if_pos (show nI 3 = (3 : Int32) by decide)]
    · rfl
  · refine ⟨1, 5, ?_, fun v h1 h2 => ?_⟩
    · simp only [if_neg (show ¬ nI 4 = (1 : Int32) by decide), if_neg (show ¬ nI 4 = (3 : Int32) by decide), if_pos (show nI 4 = (4 : Int32) by decide)]
    · rfl
theorem km_stage (h : Km l I T p false) (hs : s < 6) : ∃ I', f_m_stage 492 (nI s) ((I, T) : Mem) = some ((I', T) : Mem) ∧ Fm s I I' ∧ StO l s (rdS l p) I' T := by
  have sh := h.1
  have h61 : I 492 61 = nI 0 := h.2.2.2.2.2.1
  have hc := h.2.2.1
  have bad : ∀ {q : Nat} {X : Iw}, Fm s I X → Km l X T q true → ∃ I', (some ((X, T) : Mem) : Option Mem) = some ((I', T) : Mem) ∧ Fm s I I' ∧ StO l s (false, q, 0, 0, 0, 0) I' T := fun {q X} F K => ⟨X, rfl, F, true, K, fun _ => rfl, fun z => by cases z⟩
  unfold f_m_stage
  rw [sh.ck, km_here h, cI_x, km_let, cI_x, sh.gI, h61]
  unfold rdS
  cases hx : lix (sg l p) 0 7 with
  | none =>
    rw [if_neg (show ¬ (0 : Int32) ≤ oI none by decide)]
    unfold f_m_stage_22
    rw [or1, sh.pZ (show b01 true < 2 by decide), sh.gI, (Km_61 (b' := true) h).2.2.2.2.2.1, if_neg bt0]
    exact bad (Fm_6 F6_61) (Km_61 h)
  | some kd =>
    have hk := lix_lt 7 0 kd hx
    have hlt : p < l.length := sg_lt (fun z => by rw [z, lix_m] at hx; cases hx)
    obtain ⟨J, hJ⟩ : ∃ J, J = u2 (u2 (u2 (u2 (u2 (u2 I 492 61 (nI (b01 false))) 492 60 (nI (p + 1))) 535 s (nI kd)) 536 s 0) 537 s 0) 538 s 1 := ⟨_, rfl⟩
    have KJ : Km l J T (p + 1) false := by rw [hJ]; exact Km_w (Km_w (Km_w (Km_w (Km_60 (Km_61 h) hlt) (by omega)) (by omega)) (by omega)) (by omega)
    have FJ : Fm s I J := by rw [hJ]; exact Fm_tr (Fm_6 (F6_tr F6_61 F6_60)) (Fm_tr (Fm_w (by omega) (by omega)) (Fm_tr (Fm_w (by omega) (by omega)) (Fm_tr (Fm_w (by omega) (by omega)) (Fm_w (by omega) (by omega)))))
    have J5 : J 535 s = nI kd := by rw [hJ, u2_ne (by omega), u2_ne (by omega), u2_ne (by omega)]; exact u2_at rfl rfl
    have J6 : J 536 s = 0 := by rw [hJ, u2_ne (by omega), u2_ne (by omega)]; exact u2_at rfl rfl
    have J7 : J 537 s = 0 := by rw [hJ, u2_ne (by omega)]; exact u2_at rfl rfl
    have J8 : J 538 s = nI 1 := by rw [hJ]; exact u2_at rfl rfl
    rw [if_pos (show (0 : Int32) ≤ oI (some kd) from (nI_leI (a := 0) (by omega) (by omega)).mpr (by omega))]
    show ∃ I', f_m_stage_22 492 (nI s) (nI kd) 0 (nI 0) 492 ((I, T) : Mem) = _ ∧ _
    unfold f_m_stage_22
    rw [or0, sh.pZ (show b01 false < 2 by decide), sh.gI, (Km_61 (b' := false) h).2.2.2.2.2.1, if_pos bf0, sh.gI, (Km_61 (b' := false) h).2.2.2.2.1, show nI p + (1 : Int32) = nI (p + 1) from nI_1 _, sh.pI, sh.g62, sh.s535 hs, sh.g63, sh.s536 hs, sh.g64, sh.s537 hs, sh.g65, sh.s538 hs, ← hJ]
    show ∃ I', _ = some ((I', T) : Mem) ∧ Fm s I I' ∧ StO l s (if 5 ≤ kd then _ else _) I' T
    by_cases h5 : 5 ≤ kd
    · obtain ⟨I1, e1, f1, ⟨w5, w6, w7⟩, b, K3, v1, v2⟩ := km_211 KJ hs J8
      rw [if_pos (show (5 : Int32) ≤ nI kd from (nI_leI (a := 5) (by omega) (by omega)).mpr h5), if_pos h5]
      refine ⟨I1, e1, Fm_tr FJ f1, b, K3, (fun z => by cases z), fun _ => ⟨v1, fun z => ⟨?_, ?_, ?_, v2 z⟩⟩⟩
      · rw [w5]; exact J5
      · rw [w6]; exact J6
      · rw [w7]; exact J7
    obtain ⟨I1, e1, f1, K1⟩ := km_sign (c := 40) KJ (by decide)
    have F1 : Fm s I I1 := Fm_tr FJ (Fm_6 f1)
    rw [if_neg (show ¬ (5 : Int32) ≤ nI kd from fun z => h5 ((nI_leI (a := 5) (by omega) (by omega)).mp z)), if_neg h5, sh.ck, e1, cV_x, sh.gI]
    by_cases h40 : sg l (p + 1) = 40
    case neg =>
      rw [show sk l (p + 1) 40 = p + 1 from if_neg h40, decide_eq_false h40] at K1
      have K2 : Km l I1 T (p + 1) true := K1
      rw [K2.2.2.2.2.2.1, if_neg bt0, (km_t K2 (nI s) (nI kd)).2.2.2, if_pos (show ¬ sg l (p + 1) = 40 from h40)]
      exact bad F1 K2
    rw [show sk l (p + 1) 40 = p + 1 + 1 from if_pos h40, decide_eq_true h40] at K1
    have K2 : Km l I1 T (p + 1 + 1) false := K1
    obtain ⟨lo, hi, e150, hrng⟩ := km_rng ((I1, T) : Mem) (show kd < 5 by omega) (nI s)
    obtain ⟨I2, v, e2, f2, K3, v2⟩ := km_num (a := lo) (z := hi) K2
    rw [K2.2.2.2.2.2.1, if_pos bf0, sh.g63, e150, if_neg (show ¬ ¬ sg l (p + 1) = 40 from fun z => z h40)]
    unfold f_m_stage_150
    rw [sh.ck, e2, cI_x, sh.s536 hs]
    obtain ⟨J3, hJ3⟩ : ∃ J3, J3 = u2 I2 536 s v := ⟨_, rfl⟩
    have K4 : Km l J3 T (rdN l (p + 1 + 1)).2.1 (!((rdN l (p + 1 + 1)).1 && inI (rdN l (p + 1 + 1)).2.2 lo hi)) := by rw [hJ3]; exact Km_w K3 (by omega)
    have F3 : Fm s I J3 := by rw [hJ3]; exact Fm_tr F1 (Fm_tr (Fm_6 f2) (Fm_w (by omega) (by omega)))
    rw [← hJ3]
    cases hn : (rdN l (p + 1 + 1)).1 with
    | false =>
      rw [hn] at K4
      have K5 : Km l J3 T (rdN l (p + 1 + 1)).2.1 true := K4
      rw [(km_t K5 (nI s) (nI kd)).2.2.2, if_pos (show false = false from rfl)]
      exact bad F3 K5
    | true =>
    have nb := num_bd hc hn
    rw [hn, hrng _ nb.1 nb.2] at K4
    rw [if_neg (show ¬ true = false by decide)]
    cases hr : rng kd (rdN l (p + 1 + 1)).2.2 with
    | false =>
      rw [hr] at K4
      have K5 : Km l J3 T (rdN l (p + 1 + 1)).2.1 true := K4
      rw [(km_t K5 (nI s) (nI kd)).2.2.2, if_pos (show false = false from rfl)]
      exact bad F3 K5
    | true =>
    rw [hr] at K4
    have K5 : Km l J3 T (rdN l (p + 1 + 1)).2.1 false := K4
    have v2' := v2 hn
    have g1 : ∀ a, 535 ≤ a → a ≠ 536 → J3 a s = J a s := fun a a1 a2 => by rw [hJ3, u2_ne a2, f2.1 a (by omega), f1.1 a (by omega)]
    have q5 : J3 535 s = nI kd := (g1 535 (by omega) (by omega)).trans J5
    have q6 : J3 536 s = (rdN l (p + 1 + 1)).2.2 := by rw [hJ3, v2']; exact u2_at rfl rfl
    have q7 : J3 537 s = 0 := (g1 537 (by omega) (by omega)).trans J7
    have q8 : J3 538 s = nI 1 := (g1 538 (by omega) (by omega)).trans J8
    rw [if_neg (show ¬ true = false by decide)]
    unfold f_m_stage_154
    rw [sh.gI, K5.2.2.2.2.2.1, if_pos bf0]
    by_cases h3 : 3 ≤ kd
    · rw [if_pos (show (3 : Int32) ≤ nI kd from (nI_leI (a := 3) (by omega) (by omega)).mpr h3), if_pos h3]
      unfold f_m_stage_172
      rw [sh.gI, K5.2.2.2.2.2.1, if_pos bf0, if_pos (show (3 : Int32) ≤ nI kd from (nI_leI (a := 3) (by omega) (by omega)).mpr h3)]
      exact km_198 K5 hs F3 q5 q6 q7 q8
    have h3' : ¬ (3 : Int32) ≤ nI kd := fun z => h3 ((nI_leI (a := 3) (by omega) (by omega)).mp z)
    obtain ⟨I5, e5, f5, K6⟩ := km_sign (c := 44) K5 (by decide)
    have F5 : Fm s I I5 := Fm_tr F3 (Fm_6 f5)
    rw [if_neg h3', if_neg h3, sh.ck, e5, cV_x]
    by_cases h44 : sg l (rdN l (p + 1 + 1)).2.1 = 44
    case neg =>
      rw [show sk l (rdN l (p + 1 + 1)).2.1 44 = (rdN l (p + 1 + 1)).2.1 from if_neg h44, decide_eq_false h44] at K6
      have K7 : Km l I5 T (rdN l (p + 1 + 1)).2.1 true := K6
      rw [(km_t K7 (nI s) (nI kd)).2.2.1, if_pos (show ¬ sg l (rdN l (p + 1 + 1)).2.1 = 44 from h44)]
      exact bad F5 K7
    rw [show sk l (rdN l (p + 1 + 1)).2.1 44 = (rdN l (p + 1 + 1)).2.1 + 1 from if_pos h44, decide_eq_true h44] at K6
    have K7 : Km l I5 T ((rdN l (p + 1 + 1)).2.1 + 1) false := K6
    obtain ⟨I6, w, e6, f6, K8, v6⟩ := km_num (a := -99) (z := 99) K7
    unfold f_m_stage_172
    rw [if_neg (show ¬ ¬ sg l (rdN l (p + 1 + 1)).2.1 = 44 from fun z => z h44), sh.gI, K7.2.2.2.2.2.1, if_pos bf0, if_neg h3', sh.g64, sh.ck, e6, cI_x, sh.s537 hs]
    obtain ⟨J7', hJ7⟩ : ∃ J7', J7' = u2 I6 537 s w := ⟨_, rfl⟩
    have K9 : Km l J7' T (rdN l ((rdN l (p + 1 + 1)).2.1 + 1)).2.1 (!((rdN l ((rdN l (p + 1 + 1)).2.1 + 1)).1 && inI (rdN l ((rdN l (p + 1 + 1)).2.1 + 1)).2.2 (-99) 99)) := by rw [hJ7]; exact Km_w K8 (by omega)
    have F7 : Fm s I J7' := by rw [hJ7]; exact Fm_tr F5 (Fm_tr (Fm_6 f6) (Fm_w (by omega) (by omega)))
    rw [← hJ7]
    cases hn2 : (rdN l ((rdN l (p + 1 + 1)).2.1 + 1)).1 with
    | false =>
      rw [hn2] at K9
      have K10 : Km l J7' T (rdN l ((rdN l (p + 1 + 1)).2.1 + 1)).2.1 true := K9
      rw [(km_t K10 (nI s) (nI kd)).2.1, if_pos (show false = false from rfl)]
      exact bad F7 K10
    | true =>
    have nb2 := num_bd hc hn2
    rw [hn2, inI_bd nb2.1 nb2.2] at K9
    have K10 : Km l J7' T (rdN l ((rdN l (p + 1 + 1)).2.1 + 1)).2.1 false := K9
    rw [if_neg (show ¬ true = false by decide)]
    refine km_198 K10 hs F7 ?_ ?_ ?_ ?_
    · rw [hJ7, u2_ne (by omega), f6.1 535 (by omega), f5.1 535 (by omega)]; exact q5
    · rw [hJ7, u2_ne (by omega), f6.1 536 (by omega), f5.1 536 (by omega)]; exact q6
    · rw [hJ7, ← v6 hn2]; exact u2_at rfl rfl
    · rw [hJ7, u2_ne (by omega), f6.1 538 (by omega), f5.1 538 (by omega)]; exact q8
end
