/-! CALLS: readPipeline: the reference reads a stage -/
def Km (l : List Int32) (I : Iw) (T : Tl) (p : Nat) (b : Bool) : Prop := shM T ∧ TxM I l ∧ chk l ∧ l.length ≤ 60 ∧ I 492 60 = nI p ∧ I 492 61 = nI (b01 b) ∧ p ≤ l.length
def F6 (I I' : Iw) : Prop := (∀ a, a ≠ 492 → I' a = I a) ∧ ∀ j, j ≠ 60 → j ≠ 61 → I' 492 j = I 492 j
def Fm (s : Nat) (I I' : Iw) : Prop := (∀ a, a ≠ 492 → (a < 535 ∨ 538 < a) → I' a = I a) ∧ (∀ j, j ≠ 60 → j ≠ 61 → I' 492 j = I 492 j) ∧ ∀ a j, j ≠ s → 535 ≤ a → a < 539 → I' a j = I a j
def RwM (I : Iw) (s : Nat) (c : Cf) : Prop := I 535 s = nI c.1 ∧ I 536 s = c.2.1 ∧ I 537 s = c.2.2.1 ∧ I 538 s = nI c.2.2.2
def StO (l : List Int32) (s : Nat) (x : Bool × Nat × Cf) (I : Iw) (T : Tl) : Prop := ∃ b, Km l I T x.2.1 b ∧ (x.1 = false → b = true) ∧ (x.1 = true → (b = true → dgt (sg l x.2.1) = true) ∧ (b = false → RwM I s x.2.2))
section
variable {T T' : Tl} {I I' : Iw} {E E' : Env} {D D' : Dy} {Q Q' : Slow} {S : Sy} {o i j s c r tk k m p : Nat} {l : List Int32} {b b' : Bool}
theorem F6_rf : F6 I I := ⟨fun _ _ => rfl, fun _ _ _ => rfl⟩
theorem F6_tr {I1 I2 : Iw} (h1 : F6 I I1) (h2 : F6 I1 I2) : F6 I I2 := ⟨fun a h => (h2.1 a h).trans (h1.1 a h), fun j a b => (h2.2 j a b).trans (h1.2 j a b)⟩
theorem F6_60 {v : Int32} : F6 I (u2 I 492 60 v) := ⟨fun a h => u2_ne h, fun j a _ => u2_nj rfl a⟩
theorem F6_61 {v : Int32} : F6 I (u2 I 492 61 v) := ⟨fun a h => u2_ne h, fun j _ a => u2_nj rfl a⟩
theorem Fm_rf : Fm s I I := ⟨fun _ _ _ => rfl, fun _ _ _ => rfl, fun _ _ _ _ _ => rfl⟩
theorem Fm_tr {I1 I2 : Iw} (h1 : Fm s I I1) (h2 : Fm s I1 I2) : Fm s I I2 := ⟨fun a h z => (h2.1 a h z).trans (h1.1 a h z), fun j a b => (h2.2.1 j a b).trans (h1.2.1 j a b), fun a j a1 a2 a3 => (h2.2.2 a j a1 a2 a3).trans (h1.2.2 a j a1 a2 a3)⟩
theorem Fm_6 (h : F6 I I') : Fm s I I' := ⟨fun a h1 _ => h.1 a h1, h.2, fun a j _ h1 _ => by rw [h.1 a (by omega)]⟩
theorem Fm_w {a : Nat} {v : Int32} (h1 : 535 ≤ a) (h2 : a < 539) : Fm s I (u2 I a s v) := ⟨fun b hb h => u2_ne (by omega), fun j _ _ => by rw [u2_ne (by omega)], fun b j hj _ _ => by
  by_cases hz : b = a
  · exact u2_nj hz hj
  · rw [u2_ne hz]⟩
theorem Km_row {p' : Nat} (h : Km l I T p b) (f1 : I' 493 = I 493) (f2 : I' 492 1 = I 492 1) (h60 : I' 492 60 = nI p') (h61 : I' 492 61 = nI (b01 b')) (hp : p' ≤ l.length) : Km l I' T p' b' := by
  obtain ⟨h1, h2, h3, h4, -, -, -⟩ := h
  refine ⟨h1, ?_, h3, h4, h60, h61, hp⟩
  unfold TxM at h2 ⊢
  rw [f1, f2]
  exact h2
theorem Km_60 {q : Nat} (h : Km l I T p b) (hq : q ≤ l.length) : Km l (u2 I 492 60 (nI q)) T q b := Km_row h (u2_ne (by omega)) (u2_nj rfl (by omega)) (u2_at rfl rfl) (by rw [u2_nj rfl (by omega)]; exact h.2.2.2.2.2.1) hq
theorem Km_61 (h : Km l I T p b) : Km l (u2 I 492 61 (nI (b01 b'))) T p b' := Km_row h (u2_ne (by omega)) (u2_nj rfl (by omega)) (by rw [u2_nj rfl (by omega)]; exact h.2.2.2.2.1) (u2_at rfl rfl) h.2.2.2.2.2.2
theorem Km_w {a : Nat} {v : Int32} (h : Km l I T p b) (h1 : 535 ≤ a) : Km l (u2 I a s v) T p b := Km_row h (u2_ne (by omega)) (by rw [u2_ne (by omega)]) (by rw [u2_ne (by omega)]; exact h.2.2.2.2.1) (by rw [u2_ne (by omega)]; exact h.2.2.2.2.2.1) h.2.2.2.2.2.2
theorem km_here (h : Km l I T p b) : f_m_here 492 ((I, T) : Mem) = some (sg l p, ((I, T) : Mem)) := by
  obtain ⟨sh, hT, hc, hl, h60, -, hp⟩ := h
  unfold f_m_here
  rw [sh.gI, h60, sh.gI, hT.1]
  by_cases hz : p < l.length
  · rw [if_neg (fun z => by have := (nI_leI (by omega) (by omega)).mp z; omega), sh.g0, sh.gI, h60, sh.a493 (by omega), hT.2 p hz, sg_in hz]
  · rw [if_pos ((nI_leI (by omega) (by omega)).mpr (by omega)), sg_out hz]
    rfl
theorem km_let (c : Int32) (M : Mem) : f_m_letter c M = some (oI (lix c 0 7), M) := by
  have e : lix c 0 7 = if nI (ltr 0) = c then some 0 else if nI (ltr 1) = c then some 1 else if nI (ltr 2) = c then some 2 else if nI (ltr 3) = c then some 3 else if nI (ltr 4) = c then some 4 else if nI (ltr 5) = c then some 5 else if nI (ltr 6) = c then some 6 else none := rfl
  rw [e, show nI (ltr 0) = (109 : Int32) by decide, show nI (ltr 1) = (102 : Int32) by decide, show nI (ltr 2) = (107 : Int32) by decide, show nI (ltr 3) = (99 : Int32) by decide, show nI (ltr 4) = (115 : Int32) by decide, show nI (ltr 5) = (100 : Int32) by decide, show nI (ltr 6) = (114 : Int32) by decide]
  unfold f_m_letter
  by_cases h0 : c = 109
  · rw [if_pos h0, if_pos (show (109 : Int32) = c from h0.symm)]; rfl
  rw [if_neg h0, if_neg (show ¬ (109 : Int32) = c from fun z => h0 z.symm)]
  by_cases h1 : c = 102
  · rw [if_pos h1, if_pos (show (102 : Int32) = c from h1.symm)]; rfl
  rw [if_neg h1, if_neg (show ¬ (102 : Int32) = c from fun z => h1 z.symm)]
  by_cases h2 : c = 107
  · rw [if_pos h2, if_pos (show (107 : Int32) = c from h2.symm)]; rfl
  rw [if_neg h2, if_neg (show ¬ (107 : Int32) = c from fun z => h2 z.symm)]
  by_cases h3 : c = 99
  · rw [if_pos h3, if_pos (show (99 : Int32) = c from h3.symm)]; rfl
  rw [if_neg h3, if_neg (show ¬ (99 : Int32) = c from fun z => h3 z.symm)]
  by_cases h4 : c = 115
  · rw [if_pos h4, if_pos (show (115 : Int32) = c from h4.symm)]; rfl
  rw [if_neg h4, if_neg (show ¬ (115 : Int32) = c from fun z => h4 z.symm)]
  by_cases h5 : c = 100
  · rw [if_pos h5, if_pos (show (100 : Int32) = c from h5.symm)]; rfl
  rw [if_neg h5, if_neg (show ¬ (100 : Int32) = c from fun z => h5 z.symm)]
  by_cases h6 : c = 114
  · rw [if_pos h6, if_pos (show (114 : Int32) = c from h6.symm)]; rfl
  rw [if_neg h6, if_neg (show ¬ (114 : Int32) = c from fun z => h6 z.symm)]
  rfl
theorem or0 : nI 0 ||| (0 : Int32) = nI (b01 false) := by decide
theorem or1 : nI 0 ||| (1 : Int32) = nI (b01 true) := by decide
theorem bf0 : nI (b01 false) = (0 : Int32) := rfl
theorem bt0 : ¬ nI (b01 true) = (0 : Int32) := by decide
theorem km_sign {c : Int32} (h : Km l I T p false) (hc : ¬ c = m1) : ∃ I', f_m_sign 492 c ((I, T) : Mem) = some ((I', T) : Mem) ∧ F6 I I' ∧ Km l I' T (sk l p c) (!decide (sg l p = c)) := by
  have sh := h.1
  have h60 := h.2.2.2.2.1
  have h61 : I 492 61 = nI 0 := h.2.2.2.2.2.1
  unfold f_m_sign sk
  rw [sh.gI, h61, sh.ck, km_here h, cI_x]
  by_cases hz : sg l p = c
  · have K1 := Km_61 (b' := false) h
    have K2 := Km_60 K1 (q := p + 1) (sg_lt (by rw [hz]; exact hc))
    unfold f_m_sign_18 f_m_sign_39
    rw [if_pos hz, if_pos hz, or0, sh.pZ (show b01 false < 2 by decide), sh.gI, K1.2.2.2.2.1, sh.gI, K1.2.2.2.2.2.1, if_pos bf0, show nI p + (1 : Int32) = nI (p + 1) from nI_1 _, sh.pI, decide_eq_true hz]
    exact ⟨_, rfl, F6_tr F6_61 F6_60, K2⟩
  · have K1 := Km_61 (b' := true) h
    have K2 := Km_60 K1 (q := p) h.2.2.2.2.2.2
    unfold f_m_sign_18 f_m_sign_39
    rw [if_neg hz, if_neg hz, or1, sh.pZ (show b01 true < 2 by decide), sh.gI, K1.2.2.2.2.1, sh.gI, K1.2.2.2.2.2.1, if_neg bt0, show nI p + (0 : Int32) = nI p from Int32.add_zero _, sh.pI, decide_eq_false hz]
    exact ⟨_, rfl, F6_tr F6_61 F6_60, K2⟩
theorem km_num {a z : Int32} (h : Km l I T p false) : ∃ I' v, f_m_number 492 a z ((I, T) : Mem) = some (v, ((I', T) : Mem)) ∧ F6 I I' ∧ Km l I' T (rdN l p).2.1 (!((rdN l p).1 && inI (rdN l p).2.2 a z)) ∧ ((rdN l p).1 = true → v = (rdN l p).2.2) := by
  have sh := h.1
  have h60 := h.2.2.2.2.1
  have e29 : f_m_number 492 a z ((I, T) : Mem) = f_m_number_29 492 a z (nI (b01 (decide (sg l p = 45)))) (nI (b01 (decide (sg l p = 45)))) (nI p) 492 ((I, T) : Mem) := by
    unfold f_m_number f_m_number_14
    rw [sh.ck, km_here h, cI_x]
    by_cases hz : sg l p = 45
    · rw [if_pos hz, decide_eq_true hz, sh.gI, h60, if_neg (by decide)]; rfl
    · rw [if_neg hz, decide_eq_false hz, sh.gI, h60, if_pos rfl]; rfl
  have hq : nI p + nI (b01 (decide (sg l p = 45))) = nI (sk l p 45) := by
    unfold sk
    by_cases hz : sg l p = 45
    · rw [decide_eq_true hz, if_pos hz, nI_add]; rfl
    · rw [decide_eq_false hz, if_neg hz, nI_add]; rfl
  have hql : sk l p 45 ≤ l.length := by
    unfold sk
    by_cases hz : sg l p = 45
    · rw [if_pos hz]; exact sg_lt (by rw [hz]; decide)
    · rw [if_neg hz]; exact h.2.2.2.2.2.2
  have K1 := Km_60 h hql
  have e128 : ∀ (X : Iw) (q : Nat) (v : Int32), Km l X T q false → ∃ I', f_m_number_128 492 a z (nI (b01 (decide (sg l p = 45)))) v ((X, T) : Mem) = some (sgv (decide (sg l p = 45)) v, ((I', T) : Mem)) ∧ F6 X I' ∧ Km l I' T q (!inI (sgv (decide (sg l p = 45)) v) a z) := fun X q v KX => by
    have x61 : X 492 61 = nI 0 := KX.2.2.2.2.2.1
    have e140 : f_m_number_128 492 a z (nI (b01 (decide (sg l p = 45)))) v ((X, T) : Mem) = f_m_number_140 492 a z (sgv (decide (sg l p = 45)) v) ((X, T) : Mem) := by
      unfold f_m_number_128 sgv
      rw [b01_cs]
      cases decide (sg l p = 45) <;> rfl
    rw [e140]
    unfold f_m_number_140 f_m_number_162
    rw [sh.gI, x61, m_isIn, cI_x, b01_cs]
    cases inI (sgv (decide (sg l p = 45)) v) a z with
    | true =>
      rw [if_pos rfl, or0, sh.pZ (show b01 false < 2 by decide)]
      exact ⟨_, rfl, F6_61, Km_61 KX⟩
    | false =>
      rw [if_neg (by decide), or1, sh.pZ (show b01 true < 2 by decide)]
      exact ⟨_, rfl, F6_61, Km_61 KX⟩
  have k61 : (u2 I 492 60 (nI (sk l p 45))) 492 61 = nI 0 := K1.2.2.2.2.2.1
  rw [e29]
  unfold f_m_number_29 rdN
  rw [hq, sh.pI, sh.gI, k61, sh.ck, km_here K1, cI_x, m_isIn, cI_x, b01_cs]
  have hdg : inI (sg l (sk l p 45)) 48 57 = dgt (sg l (sk l p 45)) := rfl
  rw [hdg]
  unfold f_m_number_57
  cases hd : dgt (sg l (sk l p 45)) with
  | false =>
    have K2 := Km_61 (b' := true) K1
    rw [if_neg (show ¬ false = true by decide), if_neg (show ¬ false = true by decide), or1, sh.pZ (show b01 true < 2 by decide), sh.gI, K2.2.2.2.2.2.1, if_neg bt0]
    exact ⟨_, _, rfl, F6_tr F6_60 F6_61, K2, fun z => by cases z⟩
  | true =>
    have K2 := Km_61 (b' := false) K1
    have K3 := Km_60 K2 (q := sk l p 45 + 1) (sg_lt (dgt_m hd))
    rw [if_pos (show true = true from rfl), if_pos (show true = true from rfl), or0, sh.pZ (show b01 false < 2 by decide), sh.gI, K2.2.2.2.2.2.1, if_pos bf0, sh.ck, km_here K2, cI_x, sh.gI, K2.2.2.2.2.1, show nI (sk l p 45) + (1 : Int32) = nI (sk l p 45 + 1) from nI_1 _, sh.pI, sh.ck, km_here K3, cI_x, m_isIn, cI_x, b01_cs]
    have hdg2 : inI (sg l (sk l p 45 + 1)) 48 57 = dgt (sg l (sk l p 45 + 1)) := rfl
    rw [hdg2]
    have F3 : F6 I (u2 (u2 (u2 I 492 60 (nI (sk l p 45))) 492 61 (nI (b01 false))) 492 60 (nI (sk l p 45 + 1))) := F6_tr F6_60 (F6_tr F6_61 F6_60)
    cases hd2 : dgt (sg l (sk l p 45 + 1)) with
    | false =>
      obtain ⟨I', e2, F2, K4⟩ := e128 _ _ (sg l (sk l p 45) - 48) K3
      rw [if_neg (show ¬ false = true by decide), if_neg (show ¬ false = true by decide), e2]
      exact ⟨I', _, rfl, F6_tr F3 F2, K4, fun _ => rfl⟩
    | true =>
      have K4 := Km_60 K3 (q := sk l p 45 + 1 + 1) (sg_lt (dgt_m hd2))
      obtain ⟨I', e2, F2, K5⟩ := e128 _ _ ((sg l (sk l p 45) - 48) * 10 + sg l (sk l p 45 + 1) - 48) K4
      rw [if_pos (show true = true from rfl), if_pos (show true = true from rfl), sh.ck, km_here K3, cI_x, sh.gI, K3.2.2.2.2.1, show nI (sk l p 45 + 1) + (1 : Int32) = nI (sk l p 45 + 1 + 1) from nI_1 _, sh.pI, Int32.mul_comm, e2]
      exact ⟨I', _, rfl, F6_tr F3 (F6_tr F6_60 F2), K5, fun _ => rfl⟩
theorem c48 : ∀ c : Fin 128, inI (nI c.val - 48) 1 3 = dg3 (nI c.val) := by decide +kernel
theorem dg48 (hc : chk l) : inI (sg l p - 48) 1 3 = dg3 (sg l p) := by
  rcases sg_c (l := l) (p := p) hc with e | ⟨c, c1, c2, c3⟩
  · rw [e]; decide
  · rw [c2]; exact c48 ⟨c, c1⟩
theorem dg3_dgt {x : Int32} (h : dg3 x = true) : dgt x = true := by
  obtain ⟨c, c1, c2, rfl⟩ := inI_rng (a := 49) (b := 51) (by omega) (by omega) h
  unfold dgt inI
  rw [decide_eq_false (show ¬ nI c < (48 : Int32) from fun z => by have := (nI_ltI (b := 48) (by omega) (by omega)).mp z; omega), decide_eq_false (show ¬ (57 : Int32) < nI c from fun z => by have := (nI_ltI (a := 57) (by omega) (by omega)).mp z; omega)]
  rfl
theorem km_inst (h : Km l I T p false) : ∃ I' v, f_m_instances 492 ((I, T) : Mem) = some (v, ((I', T) : Mem)) ∧ F6 I I' ∧ Km l I' T (fin1 l p).1 (!dg3 (sg l p)) ∧ (dg3 (sg l p) = true → v = nI (fin1 l p).2) := by
  have sh := h.1
  have h61 : I 492 61 = nI 0 := h.2.2.2.2.2.1
  unfold f_m_instances f_m_instances_27 f_m_instances_48 fin1
  rw [sh.ck, km_here h, cI_x, sh.gI, h61, m_isIn, cI_x, b01_cs, dg48 h.2.2.1]
  cases hd : dg3 (sg l p) with
  | false =>
    have K1 := Km_61 (b' := true) h
    have K2 := Km_60 K1 (q := p) h.2.2.2.2.2.2
    rw [if_neg (show ¬ false = true by decide), if_neg (show ¬ false = true by decide), or1, sh.pZ (show b01 true < 2 by decide), sh.gI, K1.2.2.2.2.1, sh.gI, K1.2.2.2.2.2.1, if_neg bt0, show nI p + (0 : Int32) = nI p from Int32.add_zero _, sh.pI]
    exact ⟨_, _, rfl, F6_tr F6_61 F6_60, K2, fun z => by cases z⟩
  | true =>
    have K1 := Km_61 (b' := false) h
    have K2 := Km_60 K1 (q := p + 1) (sg_lt (dg3_m hd))
    rw [if_pos (show true = true from rfl), if_pos (show true = true from rfl), or0, sh.pZ (show b01 false < 2 by decide), sh.gI, K1.2.2.2.2.1, sh.gI, K1.2.2.2.2.2.1, if_pos bf0, show nI p + (1 : Int32) = nI (p + 1) from nI_1 _, sh.pI]
    exact ⟨_, _, rfl, F6_tr F6_61 F6_60, K2, fun _ => (dg3_val hd).1⟩
theorem km_t (h : Km l I T p true) (x y : Int32) : f_m_stage_211 492 x ((I, T) : Mem) = some ((I, T) : Mem) ∧ f_m_stage_198 492 x ((I, T) : Mem) = some ((I, T) : Mem) ∧ f_m_stage_172 492 x y ((I, T) : Mem) = some ((I, T) : Mem) ∧ f_m_stage_154 492 x y ((I, T) : Mem) = some ((I, T) : Mem) := by
  have sh := h.1
  have h61 := h.2.2.2.2.2.1
  have e1 : f_m_stage_211 492 x ((I, T) : Mem) = some ((I, T) : Mem) := by unfold f_m_stage_211; rw [sh.gI, h61, if_neg bt0]
  have e2 : f_m_stage_198 492 x ((I, T) : Mem) = some ((I, T) : Mem) := by unfold f_m_stage_198; rw [sh.gI, h61, if_neg bt0, e1]
  have e3 : f_m_stage_172 492 x y ((I, T) : Mem) = some ((I, T) : Mem) := by unfold f_m_stage_172; rw [sh.gI, h61, if_neg bt0, e2]
  have e4 : f_m_stage_154 492 x y ((I, T) : Mem) = some ((I, T) : Mem) := by unfold f_m_stage_154; rw [sh.gI, h61, if_neg bt0, e3]
  exact ⟨e1, e2, e3, e4⟩
theorem km_211 (h : Km l I T p false) (hs : s < 6) (h1 : I 538 s = nI 1) : ∃ I', f_m_stage_211 492 (nI s) ((I, T) : Mem) = some ((I', T) : Mem) ∧ Fm s I I' ∧ (I' 535 = I 535 ∧ I' 536 = I 536 ∧ I' 537 = I 537) ∧ ∃ b, Km l I' T (fin1 l p).1 b ∧ (b = true → dgt (sg l (fin1 l p).1) = true) ∧ (b = false → I' 538 s = nI (fin1 l p).2) := by
  have sh := h.1
  have h61 := h.2.2.2.2.2.1
  unfold f_m_stage_211
  rw [sh.gI, h61, if_pos bf0, sh.ck, km_here h, cI_x, m_isIn, cI_x, b01_cs]
  have hdg : inI (sg l p) 48 57 = dgt (sg l p) := rfl
  rw [hdg]
  cases hd : dgt (sg l p) with
  | false =>
    have hf : fin1 l p = (p, 1) := by
      unfold fin1
      cases h3 : dg3 (sg l p) with
      | false => rw [if_neg (by decide)]
      | true => rw [dg3_dgt h3] at hd; cases hd
    rw [hf, if_neg (by decide)]
    exact ⟨I, rfl, Fm_rf, ⟨rfl, rfl, rfl⟩, false, h, (fun z => by cases z), fun _ => h1⟩
  | true =>
    obtain ⟨I1, v, e1, f1, K1, v1⟩ := km_inst h
    rw [if_pos (show true = true from rfl), sh.g65, sh.ck, e1, cI_x, sh.s538 hs]
    refine ⟨_, rfl, Fm_tr (Fm_6 f1) (Fm_w (by omega) (by omega)), ⟨?_, ?_, ?_⟩, _, Km_w K1 (by omega), fun z => ?_, fun z => ?_⟩
    · rw [u2_ne (by omega), f1.1 _ (by omega)]
    · rw [u2_ne (by omega), f1.1 _ (by omega)]
    · rw [u2_ne (by omega), f1.1 _ (by omega)]
    · have hf : fin1 l p = (p, 1) := by
        unfold fin1
        cases h3 : dg3 (sg l p) with
        | false => rw [if_neg (by decide)]
        | true => rw [h3] at z; cases z
      rw [hf]; exact hd
    · have h3 : dg3 (sg l p) = true := by
        cases h3 : dg3 (sg l p) with
        | true => rfl
        | false => rw [h3] at z; cases z
      rw [u2_at rfl rfl]; exact v1 h3
end
