/-! CALLS: readPipeline: the class reads the stages -/
def Rw (I : Iw) (s : Nat) (c : Cf) : Prop := I 6 s = nI c.1 ∧ I 7 s = c.2.1 ∧ I 8 s = c.2.2.1 ∧ I 9 s = nI c.2.2.2
/-- what reading stage s leaves as it is -/
def FS (s : Nat) (I I' : Iw) : Prop := (∀ a, (a < 5 ∨ 9 < a) → I' a = I a) ∧ (∀ j, j ≠ 7 → j ≠ 8 → I' 5 j = I 5 j) ∧ ∀ a j, j ≠ s → 6 ≤ a → a < 10 → I' a j = I a j
/-- a stage as the document allows it -/
def cfO (c : Cf) : Prop := c.1 < 7 ∧ (c.1 = 3 → ∃ a, a ≤ 3 ∧ c.2.1 = nI a) ∧ (-99 ≤ c.2.1.toInt ∧ c.2.1.toInt ≤ 99) ∧ (-99 ≤ c.2.2.1.toInt ∧ c.2.2.1.toInt ≤ 99) ∧ 1 ≤ c.2.2.2 ∧ c.2.2.2 ≤ 3
section
variable {T T' : Tl} {I I' : Iw} {E E' : Env} {D D' : Dy} {Q Q' : Slow} {S : Sy} {g g' : Nat → Kst} {o i j s c r tk k m p : Nat} {l : List Int32}
theorem FS_rf : FS s I I := ⟨fun _ _ => rfl, fun _ _ _ => rfl, fun _ _ _ _ _ => rfl⟩
theorem FS_tr {I1 I2 : Iw} (h1 : FS s I I1) (h2 : FS s I1 I2) : FS s I I2 := ⟨fun a h => (h2.1 a h).trans (h1.1 a h), fun j a b => (h2.2.1 j a b).trans (h1.2.1 j a b), fun a j a1 a2 a3 => (h2.2.2 a j a1 a2 a3).trans (h1.2.2 a j a1 a2 a3)⟩
theorem FS_5 (h : F5 I I') : FS s I I' := ⟨fun a ha => h.1 a (by omega), h.2, fun a j _ h1 _ => by rw [h.1 a (by omega)]⟩
theorem FS_w {a : Nat} {v : Int32} (h1 : 6 ≤ a) (h2 : a < 10) : FS s I (u2 I a s v) := ⟨fun b hb => u2_ne (by omega), fun j _ _ => by rw [u2_ne (by omega)], fun b j hj _ _ => by
  by_cases hz : b = a
  · exact u2_nj hz hj
  · rw [u2_ne hz]⟩
theorem Kr_fs {p' : Nat} (h : Kr l I T p) (f : FS s I I') (h7 : I' 5 7 = nI p') (hp : p' ≤ l.length) : Kr l I' T p' := Kr_row h f.1 h7 hp
theorem Kr_w {a : Nat} {v : Int32} (h : Kr l I T p) (h1 : 6 ≤ a) (h2 : a < 10) : Kr l (u2 I a s v) T p := Kr_row h (fun b hb => u2_ne (by omega)) (by rw [u2_ne (by omega)]; exact h.2.2.2.2.1) h.2.2.2.2.2
theorem kr_159 (h : Kr l I T p) (hs : s < 4) : ∃ I', f_rd_readStage_159 5 (nI s) ((I, T) : Mem) = some (1, ((I', T) : Mem)) ∧ FS s I I' ∧ Kr l I' T (fin1 l p).1 ∧ I' 9 s = nI (fin1 l p).2 ∧ (I' 6 = I 6 ∧ I' 7 = I 7 ∧ I' 8 = I 8) := by
  have k5 := h.1.2.2.2.2.2.2.2.2.2.1
  have r9 := h.1.2.2.2.2.2.2.2.2.2.2.2.2.2.2.1
  obtain ⟨t9, l9⟩ := h.1.2.2.2.2.2.2.2.2.2.2.2.2.2.2.2.1 9 (by omega) (by omega)
  obtain ⟨I1, e1, f1, K1, -, b1, b2⟩ := kr_inst h
  refine ⟨u2 I1 9 s (nI (fin1 l p).2), ?_, FS_tr (FS_5 f1) (FS_w (by omega) (by omega)), Kr_w K1 (by omega) (by omega), u2_at rfl rfl, ?_, ?_, ?_⟩
  · unfold f_rd_readStage_159
    rw [gA_t k5, r9, onR_s, ck_t k5, e1, cI_x, sI_t t9 (by omega) (by omega)]
  · rw [u2_ne (by omega), f1.1 6 (by omega)]
  · rw [u2_ne (by omega), f1.1 7 (by omega)]
  · rw [u2_ne (by omega), f1.1 8 (by omega)]
theorem kr_stage (h : Kr l I T p) (hs : s < 4) : ∃ I', f_rd_readStage 5 (nI s) ((I, T) : Mem) = some (nI (b01 (rdS l p).1), ((I', T) : Mem)) ∧ FS s I I' ∧ Kr l I' T (rdS l p).2.1 ∧ ((rdS l p).1 = true → Rw I' s (rdS l p).2.2) := by
  have k5 := h.1.2.2.2.2.2.2.2.2.2.1
  obtain ⟨r6, r7, r8, r9, hrow, -⟩ := h.1.2.2.2.2.2.2.2.2.2.2.2
  obtain ⟨t6, l6⟩ := hrow 6 (by omega) (by omega)
  obtain ⟨t7, l7⟩ := hrow 7 (by omega) (by omega)
  obtain ⟨t8, l8⟩ := hrow 8 (by omega) (by omega)
  have h7 := h.2.2.2.2.1
  have hc := h.2.2.1
  have bad : ∀ {q : Nat} {X : Iw}, FS s I X → Kr l X T q → ∃ I', (some ((0 : Int32), ((X, T) : Mem)) : Option (Int32 × Mem)) = some (nI (b01 ((false, q, 0, 0, 0, 0) : Bool × Nat × Cf).1), ((I', T) : Mem)) ∧ FS s I I' ∧ Kr l I' T ((false, q, 0, 0, 0, 0) : Bool × Nat × Cf).2.1 ∧ (((false, q, 0, 0, 0, 0) : Bool × Nat × Cf).1 = true → Rw I' s ((false, q, 0, 0, 0, 0) : Bool × Nat × Cf).2.2) := fun {q X} F K => ⟨X, rfl, F, K, fun z => by cases z⟩
  unfold f_rd_readStage
  rw [ck_t k5, kr_sign h, cI_x]
  rcases sg_c (l := l) (p := p) hc with e | ⟨c, c1, c2, c3⟩
  · have hS : rdS l p = (false, p, 0, 0, 0, 0) := by
      unfold rdS
      rw [e, lix_m]
    rw [hS, e, if_neg (by decide)]
    unfold f_rd_readStage_20
    rw [if_pos (by decide)]
    exact bad FS_rf h
  · have hch := (ch128 ⟨c, c1⟩).2.2.2.1
    simp only at hch
    rw [c2, if_pos (show (0 : Int32) ≤ nI c from (nI_leI (a := 0) (by omega) (by omega)).mpr (by omega)), hch, idx_code c1, cI_x]
    unfold rdS
    rw [c2]
    cases hx : lix (nI c) 0 7 with
    | none =>
      unfold f_rd_readStage_20
      rw [if_pos (show oI none < (0 : Int32) by decide)]
      exact bad FS_rf h
    | some kd =>
      have hk := lix_lt 7 0 kd hx
      show ∃ I', f_rd_readStage_20 5 (nI s) (nI kd) ((I, T) : Mem) = _ ∧ _
      unfold f_rd_readStage_20
      rw [if_neg (fun z => by have := (nI_ltI (b := 0) (by omega) (by omega)).mp z; omega), if_neg (fun z => by have := (nI_ltI (b := 0) (by omega) (by omega)).mp z; omega), if_pos (show nI s < (4 : Int32) from (nI_ltI (b := 4) (by omega) (by omega)).mpr hs), gI_t k5, h7, show nI p + (1 : Int32) = nI (p + 1) from nI_1 _, pI_t k5, gA_t k5, r6, onR_s, sI_t t6 (by omega) (by omega), gA_t k5, r7, onR_s, sI_t t7 (by omega) (by omega), gA_t k5, r8, onR_s, sI_t t8 (by omega) (by omega), nums_of (by omega), cI_x]
      obtain ⟨J, hJ⟩ : ∃ J, J = u2 (u2 (u2 (u2 I 5 7 (nI (p + 1))) 6 s (nI kd)) 7 s 0) 8 s 0 := ⟨_, rfl⟩
      have KJ : Kr l J T (p + 1) := by rw [hJ]; exact Kr_w (Kr_w (Kr_w (Kr_7 h (by rw [c2]; exact m1_ne (by omega))) (by omega) (by omega)) (by omega) (by omega)) (by omega) (by omega)
      have FJ : FS s I J := by rw [hJ]; exact FS_tr (FS_5 F5_7) (FS_tr (FS_w (by omega) (by omega)) (FS_tr (FS_w (by omega) (by omega)) (FS_w (by omega) (by omega))))
      have J6 : J 6 s = nI kd := by rw [hJ, u2_ne (by omega), u2_ne (by omega)]; exact u2_at rfl rfl
      have J7 : J 7 s = 0 := by rw [hJ, u2_ne (by omega)]; exact u2_at rfl rfl
      have J8 : J 8 s = 0 := by rw [hJ]; exact u2_at rfl rfl
      rw [← hJ]
      show ∃ I', _ = some (nI (b01 (if 5 ≤ kd then _ else _ : Bool × Nat × Cf).1), ((I', T) : Mem)) ∧ _
      by_cases h5 : 5 ≤ kd
      · obtain ⟨I1, e1, f1, K1, v9, v6, v7, v8⟩ := kr_159 KJ hs
        simp only [if_pos h5, if_neg (show ¬ kd < 3 by omega), if_neg (show ¬ kd < 5 by omega), if_pos (show nI 0 ≤ (0 : Int32) by decide)]
        exact ⟨I1, e1, FS_tr FJ f1, K1, fun _ => ⟨by rw [v6]; exact J6, by rw [v7]; exact J7, by rw [v8]; exact J8, v9⟩⟩
      have hw : ¬ nI (if kd < 3 then 2 else if kd < 5 then 1 else 0) ≤ (0 : Int32) := by
        split
        · decide
        · rw [if_pos (by omega)]; decide
      obtain ⟨e1, K1⟩ := kr_skip (c := 40) KJ (by decide)
      rw [if_neg hw, ck_t k5, e1, cI_x, b01_cs]
      by_cases h40 : sg l (p + 1) = 40
      case neg =>
        simp only [if_neg h5, decide_eq_false h40, if_pos (show ¬ sg l (p + 1) = 40 from h40), Bool.false_eq_true, if_false]
        rw [if_neg h40]
        exact ⟨J, rfl, FJ, KJ, fun z => z.elim⟩
      have hsk : sk l (p + 1) 40 = p + 1 + 1 := if_pos h40
      rw [hsk, if_pos h40] at K1
      have F1 : FS s I (u2 J 5 7 (nI (p + 1 + 1))) := FS_tr FJ (FS_5 F5_7)
      obtain ⟨I2, e2, f2, K2, v2⟩ := kr_num K1
      have F2 : FS s I I2 := FS_tr F1 (FS_5 f2)
      have g6 : ∀ a, a ≠ 5 → I2 a = J a := fun a ha => by rw [f2.1 a ha, u2_ne ha]
      rw [decide_eq_true h40, if_pos h40, if_pos rfl, ck_t k5, e2, cI_x, b01_cs]
      simp only [if_neg h5, if_neg (show ¬ ¬ sg l (p + 1) = 40 from fun z => z h40)]
      cases hn : (rdN l (p + 1 + 1)).1 with
      | false =>
        rw [if_pos rfl, if_neg (by decide)]
        exact bad F2 K2
      | true =>
      have v2' := v2 hn
      rw [if_pos (show true = true from rfl), if_neg (show ¬ true = false by decide), ck_t k5, kr_range k5 v2' hk, cI_x, b01_cs]
      cases hr : rng kd (rdN l (p + 1 + 1)).2.2 with
      | false =>
        rw [if_pos rfl, if_neg (by decide)]
        exact bad F2 K2
      | true =>
      rw [if_pos (show true = true from rfl), if_neg (show ¬ true = false by decide), gA_t k5, r7, onR_s, gI_t k5, v2', sI_t t7 (by omega) (by omega)]
      obtain ⟨J3, hJ3⟩ : ∃ J3, J3 = u2 I2 7 s (rdN l (p + 1 + 1)).2.2 := ⟨_, rfl⟩
      have K3 : Kr l J3 T (rdN l (p + 1 + 1)).2.1 := by rw [hJ3]; exact Kr_w K2 (by omega) (by omega)
      have F3 : FS s I J3 := by rw [hJ3]; exact FS_tr F2 (FS_w (by omega) (by omega))
      have q6 : J3 6 s = nI kd := by rw [hJ3, u2_ne (by omega), g6 6 (by omega)]; exact J6
      have q7 : J3 7 s = (rdN l (p + 1 + 1)).2.2 := by rw [hJ3]; exact u2_at rfl rfl
      have q8 : J3 8 s = 0 := by rw [hJ3, u2_ne (by omega), g6 8 (by omega)]; exact J8
      rw [← hJ3]
      -- the end: the sign ) and the instances
      have e148 : ∀ (X : Iw) (q : Nat) (bv : Int32), Kr l X T q → FS s I X → X 6 s = nI kd → X 7 s = (rdN l (p + 1 + 1)).2.2 → X 8 s = bv → ∃ I', f_rd_readStage_148 5 (nI s) ((X, T) : Mem) = some (nI (b01 (if ¬ sg l q = 41 then (false, q, 0, 0, 0, 0) else (true, (fin1 l (q + 1)).1, kd, (rdN l (p + 1 + 1)).2.2, bv, (fin1 l (q + 1)).2) : Bool × Nat × Cf).1), ((I', T) : Mem)) ∧ FS s I I' ∧ Kr l I' T (if ¬ sg l q = 41 then (false, q, 0, 0, 0, 0) else (true, (fin1 l (q + 1)).1, kd, (rdN l (p + 1 + 1)).2.2, bv, (fin1 l (q + 1)).2) : Bool × Nat × Cf).2.1 ∧ ((if ¬ sg l q = 41 then (false, q, 0, 0, 0, 0) else (true, (fin1 l (q + 1)).1, kd, (rdN l (p + 1 + 1)).2.2, bv, (fin1 l (q + 1)).2) : Bool × Nat × Cf).1 = true → Rw I' s (if ¬ sg l q = 41 then (false, q, 0, 0, 0, 0) else (true, (fin1 l (q + 1)).1, kd, (rdN l (p + 1 + 1)).2.2, bv, (fin1 l (q + 1)).2) : Bool × Nat × Cf).2.2) := fun X q bv KX FX' x6 x7 x8 => by
        obtain ⟨e5, K5⟩ := kr_skip (c := 41) KX (by decide)
        unfold f_rd_readStage_148
        rw [ck_t k5, e5, cI_x, b01_cs]
        by_cases h41 : sg l q = 41
        · have hsk2 : sk l q 41 = q + 1 := if_pos h41
          rw [hsk2, if_pos h41] at K5
          obtain ⟨I6, e6, f6, K6, w9, w6, w7, w8⟩ := kr_159 K5 hs
          rw [decide_eq_true h41, if_pos (show true = true from rfl), if_neg (show ¬ ¬ sg l q = 41 from fun z => z h41), if_pos h41, e6]
          exact ⟨I6, rfl, FS_tr FX' (FS_tr (FS_5 F5_7) f6), K6, fun _ => ⟨by rw [w6, u2_ne (by omega)]; exact x6, by rw [w7, u2_ne (by omega)]; exact x7, by rw [w8, u2_ne (by omega)]; exact x8, w9⟩⟩
        · rw [decide_eq_false h41, if_neg (show ¬ false = true by decide), if_neg h41, if_pos (show ¬ sg l q = 41 from h41)]
          exact bad FX' KX
      by_cases h3 : 3 ≤ kd
      · have hw1 : nI (if kd < 3 then 2 else if kd < 5 then 1 else 0) ≤ (1 : Int32) := by
          rw [if_neg (by omega), if_pos (by omega)]; decide
        rw [if_pos h3, if_pos hw1]
        exact e148 J3 _ 0 K3 F3 q6 q7 q8
      · have hw1 : ¬ nI (if kd < 3 then 2 else if kd < 5 then 1 else 0) ≤ (1 : Int32) := by
          rw [if_pos (by omega)]; decide
        obtain ⟨e5, K5⟩ := kr_skip (c := 44) K3 (by decide)
        rw [if_neg h3, if_neg hw1, ck_t k5, e5, cI_x, b01_cs]
        by_cases h44 : sg l (rdN l (p + 1 + 1)).2.1 = 44
        case neg =>
          rw [decide_eq_false h44, if_neg (show ¬ false = true by decide), if_neg h44, if_pos (show ¬ sg l (rdN l (p + 1 + 1)).2.1 = 44 from h44)]
          exact bad F3 K3
        have hsk2 : sk l (rdN l (p + 1 + 1)).2.1 44 = (rdN l (p + 1 + 1)).2.1 + 1 := if_pos h44
        rw [hsk2, if_pos h44] at K5
        obtain ⟨I6, e6, f6, K6, v6⟩ := kr_num K5
        have F6 : FS s I I6 := FS_tr F3 (FS_tr (FS_5 F5_7) (FS_5 f6))
        rw [decide_eq_true h44, if_pos (show true = true from rfl), if_neg (show ¬ ¬ sg l (rdN l (p + 1 + 1)).2.1 = 44 from fun z => z h44), if_pos h44, ck_t k5, e6, cI_x, b01_cs]
        cases hn2 : (rdN l ((rdN l (p + 1 + 1)).2.1 + 1)).1 with
        | false =>
          rw [if_pos rfl, if_neg (by decide)]
          exact bad F6 K6
        | true =>
        have v6' := v6 hn2
        rw [if_pos (show true = true from rfl), if_neg (show ¬ true = false by decide), gA_t k5, r8, onR_s, gI_t k5, v6', sI_t t8 (by omega) (by omega)]
        refine e148 _ _ _ (Kr_w K6 (by omega) (by omega)) (FS_tr F6 (FS_w (by omega) (by omega))) ?_ ?_ (u2_at rfl rfl)
        · rw [u2_ne (by omega), f6.1 6 (by omega), u2_ne (by omega)]; exact q6
        · rw [u2_ne (by omega), f6.1 7 (by omega), u2_ne (by omega)]; exact q7
end
