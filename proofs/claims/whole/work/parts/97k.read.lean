/-! CALLS: readPipeline: the text read -/
abbrev Cf : Type := Nat × Int32 × Int32 × Nat
def sg (l : List Int32) (p : Nat) : Int32 := l.getD p m1
def dgt (c : Int32) : Bool := inI c 48 57
def dg3 (c : Int32) : Bool := inI c 49 51
def sk (l : List Int32) (p : Nat) (c : Int32) : Nat := if sg l p = c then p + 1 else p
def sgv (b : Bool) (v : Int32) : Int32 := if b then -v else v
/-- a number read from p on: whether there is one, where it ends, the number -/
def rdN (l : List Int32) (p : Nat) : Bool × Nat × Int32 := if dgt (sg l (sk l p 45)) then (if dgt (sg l (sk l p 45 + 1)) then (true, sk l p 45 + 1 + 1, sgv (decide (sg l p = 45)) ((sg l (sk l p 45) - 48) * 10 + sg l (sk l p 45 + 1) - 48)) else (true, sk l p 45 + 1, sgv (decide (sg l p = 45)) (sg l (sk l p 45) - 48))) else (false, sk l p 45, 0)
def lix (c : Int32) : Nat → Nat → Option Nat
  | _, 0 => none
  | j, d + 1 => if nI (ltr j) = c then some j else lix c (j + 1) d
def rng (k : Nat) (v : Int32) : Bool := if k = 1 then inI v 0 2 else if k = 3 then inI v 0 3 else if k = 4 then inI v 1 5 else true
def fin1 (l : List Int32) (p : Nat) : Nat × Nat := if dg3 (sg l p) then (p + 1, (sg l p - 48).toNatClampNeg) else (p, 1)
def rdS (l : List Int32) (p : Nat) : Bool × Nat × Cf := match lix (sg l p) 0 7 with
  | none => (false, p, 0, 0, 0, 0)
  | some k => if 5 ≤ k then (true, (fin1 l (p + 1)).1, k, 0, 0, (fin1 l (p + 1)).2) else
    if ¬ sg l (p + 1) = 40 then (false, p + 1, 0, 0, 0, 0) else
    if (rdN l (p + 1 + 1)).1 = false then (false, (rdN l (p + 1 + 1)).2.1, 0, 0, 0, 0) else
    if rng k (rdN l (p + 1 + 1)).2.2 = false then (false, (rdN l (p + 1 + 1)).2.1, 0, 0, 0, 0) else
    if 3 ≤ k then (if ¬ sg l (rdN l (p + 1 + 1)).2.1 = 41 then (false, (rdN l (p + 1 + 1)).2.1, 0, 0, 0, 0) else (true, (fin1 l ((rdN l (p + 1 + 1)).2.1 + 1)).1, k, (rdN l (p + 1 + 1)).2.2, 0, (fin1 l ((rdN l (p + 1 + 1)).2.1 + 1)).2)) else
    if ¬ sg l (rdN l (p + 1 + 1)).2.1 = 44 then (false, (rdN l (p + 1 + 1)).2.1, 0, 0, 0, 0) else
    if (rdN l ((rdN l (p + 1 + 1)).2.1 + 1)).1 = false then (false, (rdN l ((rdN l (p + 1 + 1)).2.1 + 1)).2.1, 0, 0, 0, 0) else
    if ¬ sg l (rdN l ((rdN l (p + 1 + 1)).2.1 + 1)).2.1 = 41 then (false, (rdN l ((rdN l (p + 1 + 1)).2.1 + 1)).2.1, 0, 0, 0, 0) else
    (true, (fin1 l ((rdN l ((rdN l (p + 1 + 1)).2.1 + 1)).2.1 + 1)).1, k, (rdN l (p + 1 + 1)).2.2, (rdN l ((rdN l (p + 1 + 1)).2.1 + 1)).2.2, (fin1 l ((rdN l ((rdN l (p + 1 + 1)).2.1 + 1)).2.1 + 1)).2)
def rdL (l : List Int32) : Nat → Nat → Bool × Nat × List Cf
  | 0, p => (true, p, [])
  | d + 1, p => if (rdS l p).1 = false then (false, (rdS l p).2.1, []) else if d = 0 ∨ ¬ sg l (rdS l p).2.1 = 124 then (true, (rdS l p).2.1, [(rdS l p).2.2]) else ((rdL l d ((rdS l p).2.1 + 1)).1, (rdL l d ((rdS l p).2.1 + 1)).2.1, (rdS l p).2.2 :: (rdL l d ((rdS l p).2.1 + 1)).2.2)
def rdH (l : List Int32) : Bool × Nat × List Cf := if sg l 0 = 36 ∨ sg l 0 < 0 then (true, 0, []) else rdL l 4 0
/-- the whole text: whether it is a pipeline, where it ends or fails, the stages, the sinks -/
def rdA (l : List Int32) : Bool × Nat × List Cf × Nat :=
  if (rdH l).1 = false then (false, (rdH l).2.1, [], 1) else
  if sg l (rdH l).2.1 = 36 then (if dg3 (sg l ((rdH l).2.1 + 1)) = false then (false, (rdH l).2.1 + 1, [], 1) else (decide (sg l ((rdH l).2.1 + 1 + 1) < 0), (rdH l).2.1 + 1 + 1, (rdH l).2.2, (sg l ((rdH l).2.1 + 1) - 48).toNatClampNeg)) else
  (decide (sg l (rdH l).2.1 < 0), (rdH l).2.1, (rdH l).2.2, 1)
def Kr (l : List Int32) (I : Iw) (T : Tl) (p : Nat) : Prop := shX T ∧ SbC I T 1 l ∧ chk l ∧ l.length ≤ 60 ∧ I 5 7 = nI p ∧ p ≤ l.length
def F5 (I I' : Iw) : Prop := (∀ a, a ≠ 5 → I' a = I a) ∧ ∀ j, j ≠ 7 → j ≠ 8 → I' 5 j = I 5 j
section
variable {T T' : Tl} {I I' : Iw} {E E' : Env} {D D' : Dy} {Q Q' : Slow} {S : Sy} {g g' : Nat → Kst} {o i j s c r tk k m p : Nat} {l : List Int32}
theorem F5_rf : F5 I I := ⟨fun _ _ => rfl, fun _ _ _ => rfl⟩
theorem F5_tr {I1 I2 : Iw} (h1 : F5 I I1) (h2 : F5 I1 I2) : F5 I I2 := ⟨fun a h => (h2.1 a h).trans (h1.1 a h), fun j h h' => (h2.2 j h h').trans (h1.2 j h h')⟩
theorem F5_7 {v : Int32} : F5 I (u2 I 5 7 v) := ⟨fun a h => u2_ne h, fun j h _ => u2_nj rfl h⟩
theorem F5_8 {v : Int32} : F5 I (u2 I 5 8 v) := ⟨fun a h => u2_ne h, fun j _ h => u2_nj rfl h⟩
theorem sg_in (h : p < l.length) : sg l p = l[p] := by
  unfold sg
  rw [List.getD_eq_getElem?_getD, List.getElem?_eq_getElem h]
  rfl
theorem sg_out (h : ¬ p < l.length) : sg l p = m1 := by
  unfold sg
  rw [List.getD_eq_getElem?_getD, List.getElem?_eq_none (by omega)]
  rfl
theorem sg_c (hc : chk l) : sg l p = m1 ∨ ∃ c, c < 128 ∧ sg l p = nI c ∧ p < l.length := by
  by_cases h : p < l.length
  · obtain ⟨c, h1, h2⟩ := hc l[p] (List.getElem_mem h)
    exact Or.inr ⟨c, h1, by rw [sg_in h]; exact h2, h⟩
  · exact Or.inl (sg_out h)
theorem sg_lt (h : ¬ sg l p = m1) : p < l.length := by
  by_cases hz : p < l.length
  · exact hz
  · exact absurd (sg_out hz) h
theorem sg_neg (hc : chk l) : sg l p < 0 ↔ ¬ p < l.length := by
  refine ⟨fun h hz => ?_, fun h => by rw [sg_out h]; decide⟩
  rcases sg_c (l := l) (p := p) hc with e | ⟨c, c1, c2, c3⟩
  · obtain ⟨c, h1, h2⟩ := hc l[p] (List.getElem_mem hz)
    rw [sg_in hz, h2] at h
    have := (nI_ltI (b := 0) (by omega) (by omega)).mp h
    omega
  · rw [c2] at h
    have := (nI_ltI (b := 0) (by omega) (by omega)).mp h
    omega
theorem Kr_row {p' : Nat} (h : Kr l I T p) (f : ∀ a, (a < 5 ∨ 9 < a) → I' a = I a) (h7 : I' 5 7 = nI p') (hp : p' ≤ l.length) : Kr l I' T p' := by
  obtain ⟨h1, h2, h3, h4, -, -⟩ := h
  refine ⟨h1, SbC_cg h2 (f 1 (by omega)) (fun tv htv => ?_), h3, h4, h7, hp⟩
  obtain ⟨tv', t1, t2, t3, -⟩ := h2
  rw [t1] at htv
  cases htv
  exact f _ (by omega)
theorem kr_sign (h : Kr l I T p) : f_rd_sign 5 ((I, T) : Mem) = some (sg l p, ((I, T) : Mem)) := by
  obtain ⟨shx, hS, hc, hl, h7, hp⟩ := h
  have k5 := shx.2.2.2.2.2.2.2.2.2.1
  have r5 := shx.2.2.2.2.2.2.2.2.2.2.1
  have k1 := shx.2.2.2.2.2.2.2.1
  unfold f_rd_sign
  rw [gI_t k5, h7, if_neg (fun z => by have := (nI_ltI (b := 0) (by omega) (by omega)).mp z; omega), gI_t k5, h7, gA_t k5, r5, onR_s, ck_t k1, sb_length k1 hS, cI_x]
  by_cases hz : p < l.length
  · rw [if_pos ((nI_ltI (by omega) (by omega)).mpr hz), gA_t k5, r5, onR_s, gI_t k5, h7, ck_t k1, sb_charAt k1 hS hc hz, cI_x, sg_in hz]
  · rw [if_neg (fun z => hz ((nI_ltI (by omega) (by omega)).mp z)), sg_out hz]
    rfl
theorem Kr_7 (h : Kr l I T p) (hz : ¬ sg l p = m1) : Kr l (u2 I 5 7 (nI (p + 1))) T (p + 1) := Kr_row h (fun a ha => u2_ne (by omega)) (u2_at rfl rfl) (sg_lt hz)
theorem Kr_8 {v : Int32} (h : Kr l I T p) : Kr l (u2 I 5 8 v) T p := Kr_row h (fun a ha => u2_ne (by omega)) (by rw [u2_nj rfl (by omega)]; exact h.2.2.2.2.1) h.2.2.2.2.2
theorem dgt_m {x : Int32} (h : dgt x = true) : ¬ x = m1 := fun z => by rw [z] at h; exact absurd h (by decide)
theorem dg3_m {x : Int32} (h : dg3 x = true) : ¬ x = m1 := fun z => by rw [z] at h; exact absurd h (by decide)
theorem kr_skip {c : Int32} (h : Kr l I T p) (hc : ¬ c = m1) : f_rd_skip 5 c ((I, T) : Mem) = some (nI (b01 (decide (sg l p = c))), ((if sg l p = c then u2 I 5 7 (nI (p + 1)) else I, T) : Mem)) ∧ Kr l (if sg l p = c then u2 I 5 7 (nI (p + 1)) else I) T (sk l p c) := by
  have k5 := h.1.2.2.2.2.2.2.2.2.2.1
  have h7 := h.2.2.2.2.1
  unfold f_rd_skip sk
  rw [ck_t k5, kr_sign h, cI_x]
  by_cases hz : sg l p = c
  · rw [if_pos hz, if_pos hz, if_pos hz, gI_t k5, h7, show nI p + (1 : Int32) = nI (p + 1) from nI_1 _, pI_t k5, decide_eq_true hz]
    exact ⟨rfl, Kr_7 h (by rw [hz]; exact hc)⟩
  · rw [if_neg hz, if_neg hz, if_neg hz, decide_eq_false hz]
    exact ⟨rfl, h⟩
theorem kr_digit (h : Kr l I T p) : f_rd_atDigit 5 ((I, T) : Mem) = some (nI (b01 (dgt (sg l p))), ((I, T) : Mem)) := by
  have k5 := h.1.2.2.2.2.2.2.2.2.2.1
  unfold f_rd_atDigit dgt inI
  rw [ck_t k5, kr_sign h, cI_x]
  by_cases h1 : sg l p < 48
  · rw [if_pos h1, decide_eq_true h1]; rfl
  rw [if_neg h1, ck_t k5, kr_sign h, cI_x, decide_eq_false h1]
  by_cases h2 : (57 : Int32) < sg l p
  · rw [if_pos h2, decide_eq_true h2]; rfl
  · rw [if_neg h2, decide_eq_false h2]; rfl
theorem kr_atInst (h : Kr l I T p) : f_rd_atInstances 5 ((I, T) : Mem) = some (nI (b01 (dg3 (sg l p))), ((I, T) : Mem)) := by
  have k5 := h.1.2.2.2.2.2.2.2.2.2.1
  unfold f_rd_atInstances dg3 inI
  rw [ck_t k5, kr_sign h, cI_x]
  by_cases h1 : sg l p < 49
  · rw [if_pos h1, decide_eq_true h1]; rfl
  rw [if_neg h1, ck_t k5, kr_sign h, cI_x, decide_eq_false h1]
  by_cases h2 : (51 : Int32) < sg l p
  · rw [if_pos h2, decide_eq_true h2]; rfl
  · rw [if_neg h2, decide_eq_false h2]; rfl
theorem dg3_val {x : Int32} (h : dg3 x = true) : x - 48 = nI (x - 48).toNatClampNeg ∧ 1 ≤ (x - 48).toNatClampNeg ∧ (x - 48).toNatClampNeg ≤ 3 := by
  obtain ⟨c, c1, c2, rfl⟩ := inI_rng (a := 49) (b := 51) (by omega) (by omega) h
  rw [show (48 : Int32) = nI 48 from rfl, pk_sub (by omega), nI_clamp (by omega)]
  exact ⟨rfl, by omega, by omega⟩
theorem kr_inst (h : Kr l I T p) : ∃ I', f_rd_readInstances 5 ((I, T) : Mem) = some (nI (fin1 l p).2, ((I', T) : Mem)) ∧ F5 I I' ∧ Kr l I' T (fin1 l p).1 ∧ I' 5 8 = I 5 8 ∧ 1 ≤ (fin1 l p).2 ∧ (fin1 l p).2 ≤ 3 := by
  have k5 := h.1.2.2.2.2.2.2.2.2.2.1
  have h7 := h.2.2.2.2.1
  unfold f_rd_readInstances fin1
  rw [ck_t k5, kr_atInst h, cI_x, b01_cs]
  cases hd : dg3 (sg l p) with
  | false => exact ⟨I, rfl, F5_rf, h, rfl, (show 1 ≤ 1 from Nat.le_refl 1), (show (1 : Nat) ≤ 3 by decide)⟩
  | true =>
    obtain ⟨v1, v2, v3⟩ := dg3_val hd
    rw [if_pos rfl, if_pos rfl, ck_t k5, kr_sign h, cI_x, gI_t k5, h7, show nI p + (1 : Int32) = nI (p + 1) from nI_1 _, pI_t k5]
    exact ⟨_, by rw [← v1], F5_7, Kr_7 h (dg3_m hd), u2_nj rfl (by omega), v2, v3⟩
theorem kr_num (h : Kr l I T p) : ∃ I', f_rd_readNumber 5 ((I, T) : Mem) = some (nI (b01 (rdN l p).1), ((I', T) : Mem)) ∧ F5 I I' ∧ Kr l I' T (rdN l p).2.1 ∧ ((rdN l p).1 = true → I' 5 8 = (rdN l p).2.2) := by
  have k5 := h.1.2.2.2.2.2.2.2.2.2.1
  obtain ⟨e1, K1⟩ := kr_skip (c := 45) h (by decide)
  obtain ⟨J, hJ⟩ : ∃ J, J = if sg l p = 45 then u2 I 5 7 (nI (p + 1)) else I := ⟨_, rfl⟩
  rw [← hJ] at e1 K1
  have FJ : F5 I J := by
    rw [hJ]
    split
    · exact F5_7
    · exact F5_rf
  unfold f_rd_readNumber rdN
  rw [ck_t k5, e1, cI_x, ck_t k5, kr_digit K1, cI_x, b01_cs]
  cases hd : dgt (sg l (sk l p 45)) with
  | false => exact ⟨J, rfl, FJ, K1, fun z => by cases z⟩
  | true =>
    rw [if_pos rfl, if_pos rfl, ck_t k5, kr_sign K1, cI_x, pI_t k5]
    have K2 := Kr_8 (v := sg l (sk l p 45) - 48) K1
    have h72 := K2.2.2.2.2.1
    have K3 := Kr_7 K2 (dgt_m hd)
    obtain ⟨J2, hJ2⟩ : ∃ J2, J2 = u2 (u2 J 5 8 (sg l (sk l p 45) - 48)) 5 7 (nI (sk l p 45 + 1)) := ⟨_, rfl⟩
    have FJ2 : F5 I J2 := by rw [hJ2]; exact F5_tr FJ (F5_tr F5_8 F5_7)
    have h82 : J2 5 8 = sg l (sk l p 45) - 48 := by rw [hJ2, u2_nj rfl (by omega)]; exact u2_at rfl rfl
    rw [gI_t k5, h72, show nI (sk l p 45) + (1 : Int32) = nI (sk l p 45 + 1) from nI_1 _, pI_t k5, ← hJ2, ck_t k5]
    rw [← hJ2] at K3
    have e73 : ∀ (X : Iw) (q : Nat) (v : Int32), Kr l X T q → X 5 8 = v → F5 I X → ∃ I', f_rd_readNumber_73 5 (nI (b01 (decide (sg l p = 45)))) ((X, T) : Mem) = some (1, ((I', T) : Mem)) ∧ F5 I I' ∧ Kr l I' T q ∧ I' 5 8 = sgv (decide (sg l p = 45)) v := fun X q v KX hv FX' => by
      unfold f_rd_readNumber_73 sgv
      rw [b01_cs]
      cases decide (sg l p = 45) with
      | false => exact ⟨X, rfl, FX', KX, hv⟩
      | true =>
        rw [if_pos rfl, if_pos rfl, gI_t k5, hv, pI_t k5]
        exact ⟨_, rfl, F5_tr FX' F5_8, Kr_8 KX, u2_at rfl rfl⟩
    rw [kr_digit K3, cI_x, b01_cs]
    cases hd2 : dgt (sg l (sk l p 45 + 1)) with
    | false =>
      obtain ⟨I', e2, F2, K4, v4⟩ := e73 J2 _ _ K3 h82 FJ2
      exact ⟨I', e2, F2, K4, fun _ => v4⟩
    | true =>
      have K5 := Kr_8 (v := (sg l (sk l p 45) - 48) * 10 + sg l (sk l p 45 + 1) - 48) K3
      have h75 := K5.2.2.2.2.1
      have K6 := Kr_7 K5 (dgt_m hd2)
      obtain ⟨I', e2, F2, K7, v7⟩ := e73 _ _ ((sg l (sk l p 45) - 48) * 10 + sg l (sk l p 45 + 1) - 48) K6 (by rw [u2_nj rfl (by omega)]; exact u2_at rfl rfl) (F5_tr FJ2 (F5_tr F5_8 F5_7))
      rw [if_pos rfl, if_pos rfl, gI_t k5, h82, ck_t k5, kr_sign K3, cI_x, pI_t k5, gI_t k5, h75, show nI (sk l p 45 + 1) + (1 : Int32) = nI (sk l p 45 + 1 + 1) from nI_1 _, pI_t k5]
      exact ⟨I', e2, F2, K7, fun _ => v7⟩
theorem kr_range {v : Int32} (k5 : tK T 5 = 8) (h8 : I 5 8 = v) {kd : Nat} (hk : kd < 7) : f_rd_inRange 5 (nI kd) ((I, T) : Mem) = some (nI (b01 (rng kd v)), ((I, T) : Mem)) := by
  unfold f_rd_inRange rng
  have body : ∀ a b : Int32, (gI 8 8 ((I, T) : Mem) 5 fun v1 => if v1 < a then (some ((0 : Int32), ((I, T) : Mem))) else gI 8 8 ((I, T) : Mem) 5 fun v2 => if b < v2 then (some ((0 : Int32), ((I, T) : Mem))) else some ((1 : Int32), ((I, T) : Mem))) = some (nI (b01 (inI v a b)), ((I, T) : Mem)) := fun a b => by
    unfold inI
    rw [gI_t k5, h8]
    by_cases h1 : v < a
    · rw [if_pos h1, decide_eq_true h1]; rfl
    rw [if_neg h1, gI_t k5, h8, decide_eq_false h1]
    by_cases h2 : b < v
    · rw [if_pos h2, decide_eq_true h2]; rfl
    · rw [if_neg h2, decide_eq_false h2]; rfl
  rcases (by omega : kd = 0 ∨ kd = 1 ∨ kd = 2 ∨ kd = 3 ∨ kd = 4 ∨ kd = 5 ∨ kd = 6) with rfl | rfl | rfl | rfl | rfl | rfl | rfl
  · rfl
  · rw [if_pos (show nI 1 = (1 : Int32) by decide), body]; rfl
  · rfl
  · rw [if_neg (show ¬ nI 3 = (1 : Int32) by decide), if_neg (show ¬ nI 3 = (2 : Int32) by decide), if_pos (show nI 3 = (3 : Int32) by decide), body]; rfl
  · rw [if_neg (show ¬ nI 4 = (1 : Int32) by decide), if_neg (show ¬ nI 4 = (2 : Int32) by decide), if_neg (show ¬ nI 4 = (3 : Int32) by decide), if_pos (show nI 4 = (4 : Int32) by decide), body]; rfl
  · rfl
  · rfl
theorem idx_loop {c : Int32} (M : Mem) : ∀ (d n j : Nat), j + d = 7 → d < n → f_sl_indexOfChar_7 n (nI 7) c (nI j) M = some (oI (lix c j d), M)
  | d, 0, j, _, hn => by omega
  | 0, n + 1, j, hj, hn => by
    have : j = 7 := by omega
    subst this
    unfold f_sl_indexOfChar_7
    rw [if_pos (by decide)]
    rfl
  | d + 1, n + 1, j, hj, hn => by
    obtain ⟨⟨t1, t2⟩, -⟩ := st_let ⟨j, by omega⟩
    simp only at t1 t2
    have eO : ∀ {α : Type} (k : Int32 → Option α), aO 4 (nI j) k = k (nI (ltr j)) := fun k => (if_pos ⟨Or.inr (Or.inr rfl), t1⟩).trans (by rw [t2])
    have ih := idx_loop (c := c) M d n (j + 1) (by omega) (by omega)
    unfold f_sl_indexOfChar_7 lix
    rw [if_neg (fun z => by have := (nI_leI (by omega) (by omega)).mp z; omega), eO]
    by_cases hz : nI (ltr j) = c
    · rw [if_pos hz, if_pos hz]; rfl
    · rw [if_neg hz, if_neg hz, show nI j + (1 : Int32) = nI (j + 1) from nI_1 _]
      exact ih
theorem idx_code {c : Nat} (hc : c < 128) (M : Mem) : f_st_indexOf1 (nI c) M = some (oI (lix (nI c) 0 7), M) := by
  have e1 := ma_max (a := 0) (b := 0) M (by omega) (by omega)
  have e2 := ma_min (a := 7) (b := 7) M (by omega) (by omega)
  have hst : f_st_length M = some (7, M) := by
    unfold f_st_length f_st_coder
    rw [cI_x, show ((7 : Int32) >>> ((0 : Int32) &&& (31 : Int32))) = 7 by decide]
  have hch := (ch128 ⟨c, hc⟩).2.2.1
  simp only at hch
  unfold f_st_indexOf1 f_st_indexOf0 f_st_isLatin1 f_sl_indexOf f_sl_canEncode1 f_sl_indexOfChar
  rw [cI_x, if_neg (show ¬ (1 : Int32) = 0 by decide), hst, cI_x, if_neg (fun z => by have := (nI_ltI (b := 0) (by omega) (by omega)).mp z; omega), if_neg (fun z => by have := (nI_ltI (a := 255) (by omega) (by omega)).mp z; omega), cI_x, if_neg (show ¬ (1 : Int32) = 0 by decide), show (0 : Int32) = nI 0 from rfl, show (7 : Int32) = nI 7 from rfl, e1, cI_x, e2, cI_x, if_pos (show nI (max 0 0) < nI (min 7 7) by decide), hch, show nI (min 7 7) = nI 7 from rfl, show nI (max 0 0) = nI 0 from rfl, idx_loop M 7 FU 0 (by omega) (by unfold FU; omega), cI_x, cI_x, cI_x]
theorem lix_lt {c : Int32} : ∀ (d j k : Nat), lix c j d = some k → k < j + d
  | 0, _, _, h => by cases h
  | d + 1, j, k, h => by
    unfold lix at h
    split at h
    · cases h; omega
    · have := lix_lt d (j + 1) k h; omega
theorem lix_m : lix m1 0 7 = none := by decide
end
