/-! CALLS: rescale -/
def kf (x : Nat) : Fin 16 := Fin.ofNat 16 x
/-- how many of d places from x on have P -/
def cntF (P : Nat → Bool) : Nat → Nat → Nat
  | _, 0 => 0
  | x, d + 1 => b01 (P x) + cntF P (x + 1) d
def opOk (E : Env) (p : Int32) : Bool := inI p (nI 0) (nI (eN E + 1))
def resQ (Q : Slow) (o : Nat) : Slow := (qP Q, qO Q, fun s => if 3 * o ≤ s ∧ s < 3 * o + 3 then 0 else qR Q s, qV Q, qC Q, qF Q + nI 1, qB Q)
def resS (S : Sy) (o n : Nat) : Sy := (esP (esQ (yE S) 0) (upw (eP (yE S)) o n), brkD (yD S) (resQ (yQ S) o), resQ (yQ S) o, S.2.2.2)
def rsP (f : Kst) (w p x : Nat) : Bool := (f (kf x)).isSome && !decide (home w (kf x) = home p (kf x))
def yResc (S : Sy) (p q : Int32) : Int32 × Sy := if p = 0 ∨ opOk (yE S) p = false then (-1000000001, S) else if inI q 1 3 then (nI (cntF (rsP (qV (yQ S) p.toNatClampNeg) (eP (yE S) p.toNatClampNeg) q.toNatClampNeg) 0 16), resS S p.toNatClampNeg q.toNatClampNeg) else (-1000000002, S)
section
variable {T T' : Tl} {I I' : Iw} {E E' : Env} {D D' : Dy} {Q Q' : Slow} {S : Sy} {g g' : Nat → Kst} {o i j s c r tk k m : Nat}
theorem cntF_le {P : Nat → Bool} : ∀ {d x : Nat}, cntF P x d ≤ d
  | 0, _ => Nat.le_refl _
  | d + 1, x => by
    have := cntF_le (P := P) (d := d) (x := x + 1)
    unfold cntF b01
    split <;> omega
theorem cntF_z {P : Nat → Bool} : ∀ {d x : Nat}, (∀ y, P y = false) → cntF P x d = 0
  | 0, _, _ => rfl
  | d + 1, x, h => by
    unfold cntF
    rw [h x, cntF_z h]
    rfl
theorem kv_kf {x : Nat} (h : x < 16) : nI x = kv (kf x) := by
  unfold kv kf
  rw [show (Fin.ofNat 16 x).val = x from Nat.mod_eq_of_lt h]
theorem kf_val {x : Nat} (h : x < 16) : (kf x).val = x := Nat.mod_eq_of_lt h
theorem opOk_t {p : Int32} (n4 : eN E ≤ 4) (h : opOk E p = true) : ∃ o, o ≤ eN E + 1 ∧ p = nI o := by
  obtain ⟨o, -, h2, h3⟩ := inI_rng (a := 0) (b := eN E + 1) (by omega) (by omega) h
  exact ⟨o, h2, h3⟩
theorem sm_opI (sh : shSm T) (hc : CfC I E) (n4 : eN E ≤ 4) (p : Int32) : f_sm_operatorAt 10 p ((I, T) : Mem) = some (if opOk E p then some (20 + 33 * p.toNatClampNeg) else none, ((I, T) : Mem)) := by
  cases hp : opOk E p with
  | true =>
    obtain ⟨o, ho, rfl⟩ := opOk_t n4 hp
    rw [sm_opAt sh hc n4 (by omega), if_pos ho, nI_clamp (by omega)]
    rfl
  | false =>
    by_cases h1 : p < nI 0
    · exact sm_opNeg h1 _
    · have h2 : nI (eN E + 1) < p := by
        unfold opOk inI at hp
        rw [decide_eq_false h1] at hp
        simp only [Bool.not_false, Bool.true_and, Bool.not_eq_false', decide_eq_true_eq] at hp
        exact hp
      have ksm := sh.1
      have hst := hc.1
      unfold f_sm_operatorAt
      rw [if_neg (show ¬ p < (0 : Int32) from h1), gI_t ksm, hst, show nI (eN E) + (1 : Int32) = nI (eN E + 1) from nI_1 _, if_pos h2]
      rfl
theorem nrZ_b {α : Type} (b : Bool) (X : Option α) : nrZ .boolean (nI (b01 b)) X = X := by
  unfold nrZ
  cases b with
  | false => exact if_pos (by decide)
  | true => exact if_pos (by decide)
theorem m_isOp (sh : shM T) (hc : CoM I E) (p : Int32) : f_m_isOperator 492 p ((I, T) : Mem) = some (nI (b01 (opOk E p)), ((I, T) : Mem)) := by
  have e := m_sink (T := T) sh hc.1
  unfold f_m_isOperator
  rw [sh.ck, e, cI_x, m_isIn, cI_x]
  exact nrZ_b _ _
theorem kmv_loop (sh : shSm T) (hE : okE E) (ho : o ≤ eN E + 1) {f : Kst} (hK : KyC I (20 + 33 * o + 2) f) (h9 : I (20 + 33 * o) 9 = nI (eP E o)) {n' : Nat} (hn' : n' ≤ 3) : ∀ (d n x a : Nat), x + d = 16 → d < n → f_op_keysMovedBy_4 n (20 + 33 * o) (nI n') (nI a) (nI x) ((I, T) : Mem) = some (nI (a + cntF (rsP f (eP E o) n') x d), ((I, T) : Mem))
  | d, 0, x, a, _, hn => by omega
  | 0, n + 1, x, a, hx, hn => by
    have : x = 16 := by omega
    subst this
    unfold f_op_keysMovedBy_4
    exact if_pos (by decide)
  | d + 1, n + 1, x, a, hx, hn => by
    have n4 := hE.1
    have kop := sh.op (o := o) (by omega)
    have k1 := kop.1
    have kr1 := kop.2.2.2.2.2.1
    have ky := kop.2.2.2.2.2.2.2.2.2.2.1
    have ky1 := ky.1
    have e1 : f_ky_has (20 + 33 * o + 2) (nI x) ((I, T) : Mem) = some (nI (b01 (f (kf x)).isSome), ((I, T) : Mem)) := by
      rw [kv_kf (x := x) (by omega)]
      exact (ky_at ky hK (kf x)).1
    have e2 : f_op_ownerOf (20 + 33 * o) (nI x) (nI (eP E o)) ((I, T) : Mem) = some (nI (home (eP E o) (kf x)), ((I, T) : Mem)) := by
      rw [kv_kf (x := x) (by omega)]
      exact op_owner _ (kf x) (hE.p3 ho)
    have e3 : f_op_ownerOf (20 + 33 * o) (nI x) (nI n') ((I, T) : Mem) = some (nI (home n' (kf x)), ((I, T) : Mem)) := by
      rw [kv_kf (x := x) (by omega)]
      exact op_owner _ (kf x) hn'
    have b1 := home_lt (k := kf x) (hE.p1 ho) (hE.p3 ho)
    have b2 : home n' (kf x) < 2 ^ 31 := by
      have := (kf x).isLt
      have h6 : (kf x).val % 8 * n' ≤ 7 * 3 := Nat.mul_le_mul (by omega) hn'
      unfold home
      omega
    have p3 := hE.p3 ho
    have h16 : ¬ (16 : Int32) ≤ nI x := fun z => by have := (nI_leI (a := 16) (by omega) (by omega)).mp z; omega
    have hP : rsP f (eP E o) n' x = ((f (kf x)).isSome && !decide (home (eP E o) (kf x) = home n' (kf x))) := rfl
    unfold f_op_keysMovedBy_4 cntF
    rw [hP, if_neg h16, gA_t k1, kr1, onR_s, ck_t ky1, e1, cI_x, b01_cs]
    unfold f_op_keysMovedBy_42
    rw [show nI x + (1 : Int32) = nI (x + 1) from nI_1 _]
    cases hs : (f (kf x)).isSome with
    | false =>
      have ih := kmv_loop sh hE ho hK h9 hn' d n (x + 1) a (by omega) (by omega)
      rw [if_neg (by decide), ih]
      simp only [Bool.false_and, b01, Bool.false_eq_true, if_false, Nat.zero_add]
    | true =>
      rw [if_pos rfl, gI_t k1, h9, ck_t k1, e2, cI_x, ck_t k1, e3, cI_x]
      by_cases hz : home (eP E o) (kf x) = home n' (kf x)
      · have ih := kmv_loop sh hE ho hK h9 hn' d n (x + 1) a (by omega) (by omega)
        rw [decide_eq_true hz, hz, if_pos rfl, ih]
        simp only [Bool.not_true, Bool.and_false, b01, Bool.false_eq_true, if_false, Nat.zero_add]
      · have ih := kmv_loop sh hE ho hK h9 hn' d n (x + 1) (a + 1) (by omega) (by omega)
        rw [decide_eq_false hz, if_neg (fun z => hz ((nI_eq (by omega) b2).mp z)), show nI a + (1 : Int32) = nI (a + 1) from nI_1 _, ih]
        simp only [Bool.not_false, Bool.and_true, b01, if_true, Nat.add_assoc]
theorem CT_P9 {n' : Nat} (hE : okE (esP E (upw (eP E) o n'))) (h : CT E D g Q I T) (hQ : eQ E = 0) (hd : ∀ s, dD D s = false) (ho : o < 6) : CT (esP E (upw (eP E) o n')) D g Q (u2 I (20 + 33 * o) 9 (nI n')) T ∧ FX T I (u2 I (20 + 33 * o) 9 (nI n')) := by
  obtain ⟨⟨c1, c2, c3, c4⟩, h2, h3, h4, h5, h6, h7, ⟨s1, s2, s3, s4⟩, h9, h10, h11⟩ := h
  have n4 : eN E ≤ 4 := hE.1
  have f : ∀ a, a ≠ 20 + 33 * o → u2 I (20 + 33 * o) 9 (nI n') a = I a := fun a ha => u2_ne ha
  have fj : ∀ a j, j ≠ 9 → u2 I (20 + 33 * o) 9 (nI n') a j = I a j := fun a j hj => by
    by_cases hz : a = 20 + 33 * o
    · exact u2_nj hz hj
    · rw [f a hz]
  have hi : ∀ o' i', i' < 3 → 20 + 33 * o' + 18 + 5 * i' ≠ 20 + 33 * o := fun o' i' hi' => by
    have := adr_op (o := o') hi' o
    omega
  refine ⟨⟨⟨by rw [fj 10 5 (by omega)]; exact c1, ?_, by rw [f 11 (by omega)]; exact c3, fun x hx => ?_⟩, ChsC_cg h2 (fun a _ _ => f a (by omega)), InsC_cg h3 (fun a _ _ _ => f a (by omega)), KsC_cg h4 (fun a _ _ _ _ => f a (by omega)), PeC_cg h5 (fun a _ _ _ _ => f a (by omega)), ⟨h6.1, fun o' i' v hdd => by rw [hd] at hdd; cases hdd⟩, StC_cg h7 (fun o' ho' j h1 h2 => fj _ j (by omega)), ⟨(fj 10 6 (by omega)).trans s1, (congrFun (f 10 (by omega)) 9).trans s2, (fj 10 12 (by omega)).trans s3, fun w => absurd hQ w⟩, NpC_cg (E := E) h9 (fun a _ _ => f a (by omega)), LaC_cg h10 (f 18 (by omega)) (fun a ha => f a (by omega)), VsC_cg h11 (fun a _ _ _ _ => f a (by omega)) (fun o' i' ho' hi' => by rw [f _ (hi o' i' hi')]) ⟨fj 10 7 (by omega), fj 10 8 (by omega), fj 10 10 (by omega), fj 10 11 (by omega), fj 10 14 (by omega)⟩⟩, fun a _ hb _ => f a (by omega)⟩
  · unfold SeC; rw [f 11 (by omega)]; exact c2
  · have hx' : x ≤ eN E + 1 := hx
    obtain ⟨w1, w2, w3, w4⟩ := c4 x hx'
    refine ⟨(fj _ 6 (by omega)).trans w1, (fj _ 7 (by omega)).trans w2, (fj _ 8 (by omega)).trans w3, ?_⟩
    show u2 I (20 + 33 * o) 9 (nI n') (20 + 33 * x) 9 = nI (upw (eP E) o n' x)
    by_cases hz : x = o
    · rw [hz, upw_eq]; exact u2_at rfl rfl
    · rw [upw_ne hz, f _ (by omega)]; exact w4
theorem okE_P {n' : Nat} (hE : okE E) (h0 : 1 ≤ o) (hn : 1 ≤ n' ∧ n' ≤ 3) : okE (esP E (upw (eP E) o n')) := by
  obtain ⟨h1, h2, h3, h4⟩ := hE
  refine ⟨h1, fun x hx => ?_, ?_, h4⟩
  · show 1 ≤ upw (eP E) o n' x ∧ upw (eP E) o n' x ≤ 3
    by_cases hz : x = o
    · rw [hz, upw_eq]; exact hn
    · rw [upw_ne hz]; exact h2 x hx
  · show upw (eP E) o n' 0 = 1
    rw [upw_ne (by omega)]
    exact h3
theorem PD_res {n' : Nat} (h : PD S k) (h0 : 1 ≤ o) (ho : o ≤ eN (yE S) + 1) (hn : 1 ≤ n' ∧ n' ≤ 3) : PD (resS S o n') (k + 1) := by
  obtain ⟨⟨hE, hA, hI, hTI, hW, hZ, hN, hC, hP, hT0, hqc, hqk⟩, hR⟩ := h
  refine ⟨?_, hR⟩
  have hle : ∀ s, (if 3 * o ≤ s ∧ s < 3 * o + 3 then 0 else qR (yQ S) s) ≤ 324 * eT (yE S) := fun s => by
    split
    · exact Nat.zero_le _
    · exact hN.2.1 s
  refine WD_fresh (E := esP (esQ (yE S) 0) (upw (eP (yE S)) o n')) (D := brkD (yD S) (resQ (yQ S) o)) (Q := resQ (yQ S) o) (okE_P (E := esQ (yE S) 0) hE h0 hn) hA (fun _ => rfl) (fun _ => rfl) (fun _ => rfl) (fun _ => rfl) (fun _ => (by omega : (0 : Nat) < 3)) (fun _ => rfl) rfl rfl hC.1 hZ.2.1 hZ.2.1 (fun s hs => ?_) hle hle hN.2.2.2.1 hN.2.2.2.2.1 hN.2.2.2.2.2 hC.1 (fun w => (hC.2.2.2 w).2.1) (Nat.le_trans hT0 (by omega)) (Nat.le_succ_of_le hqc)
  show (if 3 * o ≤ s ∧ s < 3 * o + 3 then 0 else qR (yQ S) s) = 0
  split
  · rfl
  · rename_i hz
    refine hZ.2.2.2.1 s (fun o2 i2 v e => ?_)
    have i3 := v.i3 hE
    have hne : o2 ≠ o := fun z => hz (by rw [e, z]; unfold spt; omega)
    refine hs o2 i2 ⟨v.1, ?_⟩ e
    show i2 < upw (eP (yE S)) o n' o2
    rw [upw_ne hne]
    exact v.2
theorem PD_resc (h : PD S k) (p q : Int32) : PD (yResc S p q).2 (k + 1) := by
  have n4 := h.1.1.1
  unfold yResc
  split
  · exact PD_mono h (by omega)
  · rename_i hz
    split
    · rename_i hq
      obtain ⟨o, ho, rfl⟩ := opOk_t n4 (show opOk (yE S) p = true by
        cases hb : opOk (yE S) p with
        | true => rfl
        | false => exact absurd (Or.inr hb) hz)
      obtain ⟨n', n1, n2, rfl⟩ := inI_rng (a := 1) (b := 3) (by omega) (by omega) hq
      have h0 : o ≠ 0 := fun z => hz (Or.inl (by rw [z]; rfl))
      rw [nI_clamp (by omega), nI_clamp (by omega)]
      exact PD_res h (by omega) ho ⟨n1, n2⟩
    · exact PD_mono h (by omega)
theorem sm_chInst {n' : Nat} (sh : shSm T) (hE : okE E) (h0 : 1 ≤ o) (ho : o ≤ eN E + 1) (hn : 1 ≤ n' ∧ n' ≤ 3) (hC : CT E D g Q I T) : ∃ I', f_sm_changeInstances 10 (nI o) (nI n') ((I, T) : Mem) = some (nI (cntF (rsP (qV Q o) (eP E o) n') 0 16), ((I', T) : Mem)) ∧ CT (esP (esQ E 0) (upw (eP E) o n')) (brkD D (resQ Q o)) g (resQ Q o) I' T ∧ FX T I I' := by
  have n4 := hE.1
  obtain ⟨I1, e1, C1, F1⟩ := sm_fail sh hE hC
  have e2 := sm_opAt (T := T) (o := o) (E := esQ E 0) sh C1.1 n4 (by omega)
  rw [show (if o ≤ eN (esQ E 0) + 1 then some (20 + 33 * o) else none) = some (20 + 33 * o) from if_pos ho] at e2
  have h9 : I1 (20 + 33 * o) 9 = nI (eP E o) := (C1.1.2.2.2 o ho).2.2.2
  have e3 := kmv_loop (T := T) (I := I1) (f := qV Q o) (n' := n') sh hE ho (C1.2.2.2.1 o (by omega)) h9 hn.2 16 FU 0 0 (by omega) (by unfold FU; omega)
  rw [Nat.zero_add] at e3
  obtain ⟨C4, F4⟩ := CT_P9 (E := esQ E 0) (n' := n') (okE_P (E := esQ E 0) hE h0 hn) C1 rfl (fun _ => rfl) (by omega)
  obtain ⟨I5, e5, C5, F5⟩ := op_resets (E := esP (esQ E 0) (upw (eP E) o n')) (o := o) sh (okE_P (E := esQ E 0) hE h0 hn) (by omega) C4
  have k1 := (sh.op (o := o) (by omega)).1
  have ksm := sh.1
  refine ⟨I5, ?_, C5, FX_tr F1 (FX_tr F4 F5)⟩
  unfold f_sm_changeInstances f_op_keysMovedBy
  rw [ck_t ksm, e1, cV_x, ck_t ksm, e2, cR_x, onR_s, ck_t k1, show (0 : Int32) = nI 0 from rfl, e3, cI_x, pI_t k1, ck_t k1, e5, cV_x]
theorem x_resc (hC : SC S I T) (h : PD S k) (p q : Int32) : ∃ I' T', f_x_rescale 0 p q ((I, T) : Mem) = some ((yResc S p q).1, ((I', T') : Mem)) ∧ SC (yResc S p q).2 I' T' ∧ KP I T I' T' := by
  have hC' := hC
  obtain ⟨sh, shx, h550, -, -, ⟨g, hCT⟩, -⟩ := hC
  have hE := h.1.1
  have n4 := hE.1
  obtain ⟨x0, -, -, -, x3, -⟩ := shx
  have ksm := sh.1
  unfold f_x_rescale yResc
  by_cases hz : p = 0
  · rw [if_pos hz, if_pos (Or.inl hz)]
    exact ⟨I, T, rfl, hC', KP_rf⟩
  rw [if_neg hz, gA_t x0, x3, onR_s, ck_t ksm, sm_opI sh hCT.1 n4, cR_x]
  cases hp : opOk (yE S) p with
  | false =>
    rw [if_pos (Or.inr rfl), if_neg (by decide), onR_n]
    exact ⟨I, T, rfl, hC', KP_rf⟩
  | true =>
    obtain ⟨o, ho, rfl⟩ := opOk_t n4 hp
    have h0 : o ≠ 0 := fun z => hz (by rw [z]; rfl)
    have hor : ¬ (nI o = (0 : Int32) ∨ true = false) := fun w => w.elim hz (fun e => by cases e)
    rw [if_pos rfl, onR_s, if_neg hor]
    have bad : ∀ {m : Option (Int32 × Mem)} {Y : Int32 × Sy}, inI q 1 3 = false → m = some ((-1000000002 : Int32), ((I, T) : Mem)) → ∃ I' T', m = some ((if inI q 1 3 then Y else (-1000000002, S)).1, ((I', T') : Mem)) ∧ SC (if inI q 1 3 then Y else (-1000000002, S)).2 I' T' ∧ KP I T I' T' := fun hb e => by
      rw [hb]
      exact ⟨I, T, e, hC', KP_rf⟩
    by_cases h1 : q < 1
    · exact bad (by unfold inI; rw [decide_eq_true h1]; rfl) (if_pos h1)
    by_cases h2 : q ≤ 3
    · have hq : inI q 1 3 = true := by unfold inI; rw [decide_eq_false h1, decide_eq_false (Int32.not_lt.mpr h2)]; rfl
      obtain ⟨n', n1, n2, rfl⟩ := inI_rng (a := 1) (b := 3) (by omega) (by omega) hq
      rw [if_neg h1, if_pos h2, if_pos hq, nI_clamp (by omega), nI_clamp (by omega)]
      obtain ⟨I1, e1, C1, F1⟩ := sm_chInst sh hE (by omega) ho ⟨n1, n2⟩ hCT
      obtain ⟨C2, K2⟩ := SC_fx hC' hE C1 F1 rfl rfl rfl rfl rfl
      refine ⟨I1, T, ?_, C2, K2⟩
      rw [gA_t x0, x3, onR_s, ck_t ksm, e1, cI_x]
    · exact bad (by unfold inI; rw [decide_eq_true (Int32.not_le.mp h2), decide_eq_false h1]; rfl) (by rw [if_neg h1, if_neg h2])
-- the reference
theorem res89 (sh : shM T) (hE : okE E') (hc : CoM I E') (ho : o ≤ eN E' + 1) {f : Nat → Kst} (hK : KyM I 504 507 510 f) (hk0 : kyd (eK E' o) = false → ∀ x, f o x = none) {w : Nat} (hw : w ≤ 3) : ∀ (d n x a : Nat), x + d = 16 → d < n → f_m_rescale_89 n 492 (nI o) (nI w) (nI a) (nI x) ((I, T) : Mem) = some (nI (a + cntF (rsP (f o) w (eP E' o)) x d), ((I, T) : Mem))
  | d, 0, x, a, _, hn => by omega
  | 0, n + 1, x, a, hx, hn => by
    have : x = 16 := by omega
    subst this
    unfold f_m_rescale_89
    exact if_pos (by decide)
  | d + 1, n + 1, x, a, hx, hn => by
    have n4 := hE.1
    obtain ⟨c1, -, -, c4⟩ := hc.op ho
    have e1 := m_isKeyed (T := T) sh (by omega) c1 (kind_le hE ho)
    have hb := (hK o (kf x) (by omega)).1
    rw [kf_val (by omega)] at hb
    have p3 := hE.p3 ho
    have e2 : f_m_home 492 (nI o) (nI x) ((I, T) : Mem) = some (nI (home (eP E' o) (kf x)), ((I, T) : Mem)) := by
      rw [kv_kf (x := x) (by omega)]
      exact m_home sh (by omega) c4 p3 (kf x)
    have b1 : home (eP E' o) (kf x) < 2 ^ 31 := by
      have := home_lt (k := kf x) (hE.p1 ho) p3
      omega
    have hwx : home w (kf x) = x % 8 * w / 8 := by unfold home; rw [kf_val (by omega)]
    have hm : x % 8 * w ≤ 7 * 3 := Nat.mul_le_mul (by omega) hw
    have b2 : home w (kf x) < 2 ^ 31 := by omega
    have h16 : ¬ (16 : Int32) ≤ nI x := fun z => by have := (nI_leI (a := 16) (by omega) (by omega)).mp z; omega
    unfold f_m_rescale_89
    rw [if_neg h16, sh.ck, e1, cI_x, b01_cs]
    cases hky : kyd (eK E' o) with
    | false =>
      have hz := hk0 hky
      rw [if_neg (by decide), cntF_z (fun y => by unfold rsP; rw [hz]; rfl)]
      rfl
    | true =>
      rw [if_pos rfl, sh.g24, show (16 : Int32) * nI o + nI x = nI (16 * o + x) by rw [show (16 : Int32) = nI 16 from rfl, pk_mul, nI_add], sh.a504 (by omega), hb, b01_cs]
      have hP : rsP (f o) w (eP E' o) x = ((f o (kf x)).isSome && !decide (home w (kf x) = home (eP E' o) (kf x))) := rfl
      unfold cntF f_m_rescale_145 f_m_rescale_146
      rw [hP, show nI x + (1 : Int32) = nI (x + 1) from nI_1 _]
      cases hs : (f o (kf x)).isSome with
      | false =>
        have ih := res89 sh hE hc ho hK hk0 hw d n (x + 1) a (by omega) (by omega)
        rw [if_neg (by decide), show nI a + (0 : Int32) = nI a by rw [show (0 : Int32) = nI 0 from rfl, nI_add, Nat.add_zero], ih]
        simp only [Bool.false_and, b01, Bool.false_eq_true, if_false, Nat.zero_add]
      | true =>
        rw [if_pos rfl, show (8 : Int32) = nI 8 from rfl, rmI_t (by omega) (by omega) (by omega), pk_mul, dvI_t (by omega) (by omega) (by omega), ← hwx, sh.ck, e2, cI_x]
        by_cases hz : home w (kf x) = home (eP E' o) (kf x)
        · have ih := res89 sh hE hc ho hK hk0 hw d n (x + 1) a (by omega) (by omega)
          rw [decide_eq_true hz, hz, if_pos rfl, show nI a + (0 : Int32) = nI a by rw [show (0 : Int32) = nI 0 from rfl, nI_add, Nat.add_zero], ih]
          simp only [Bool.not_true, Bool.and_false, b01, Bool.false_eq_true, if_false, Nat.zero_add]
        · have ih := res89 sh hE hc ho hK hk0 hw d n (x + 1) (a + 1) (by omega) (by omega)
          rw [decide_eq_false hz, if_neg (fun z => hz ((nI_eq b2 b1).mp z)), show nI a + (1 : Int32) = nI (a + 1) from nI_1 _, ih]
          simp only [Bool.not_false, Bool.and_true, b01, if_true, Nat.add_assoc]
theorem res48 (sh : shM T) (ho : o < 6) (a b : Int32) (n : Nat) : f_m_rescale_48 (n + 4) 492 (nI o) a b (nI 0) ((I, T) : Mem) = (gA 13 6 ((u2 (u2 (u2 I 515 (spt o 0) (nI 0)) 515 (spt o 1) (nI 0)) 515 (spt o 2) (nI 0), T) : Mem) 492 fun a1 => sI ((u2 (u2 (u2 I 515 (spt o 0) (nI 0)) 515 (spt o 1) (nI 0)) 515 (spt o 2) (nI 0), T) : Mem) a1 (nI o) a fun M2 => ck M2 492 13 <| cV (f_m_breaks 492 M2) fun M3 => f_m_rescale_89 FU 492 (nI o) b (0 : Int32) (0 : Int32) M3) := by
  have e0 : ∀ M, f_m_spot (nI o) (nI 0) M = some (nI (spt o 0), M) := fun M => m_spot o 0 M
  have e1 : ∀ M, f_m_spot (nI o) (nI 1) M = some (nI (spt o 1), M) := fun M => m_spot o 1 M
  have e2 : ∀ M, f_m_spot (nI o) (nI 2) M = some (nI (spt o 2), M) := fun M => m_spot o 2 M
  have s0 : spt o 0 < 18 := by unfold spt; omega
  have s1 : spt o 1 < 18 := by unfold spt; omega
  have s2 : spt o 2 < 18 := by unfold spt; omega
  have step : ∀ (m i : Nat) (J : Iw), i < 3 → f_m_rescale_48 (m + 1) 492 (nI o) a b (nI i) ((J, T) : Mem) = f_m_rescale_48 m 492 (nI o) a b (nI (i + 1)) ((u2 J 515 (spt o i) (nI 0), T) : Mem) := fun m i J hi => by
    have hs : spt o i < 18 := by unfold spt; omega
    conv => lhs; unfold f_m_rescale_48
    rw [if_neg (fun z => by have := (nI_leI (a := 3) (by omega) (by omega)).mp z; omega), sh.g35, m_spot, cI_x, show (0 : Int32) = nI 0 from rfl, sh.s515 hs, show nI i + (1 : Int32) = nI (i + 1) from nI_1 _]
  rw [show n + 4 = (n + 3) + 1 from rfl, step _ 0 _ (by omega), show n + 3 = (n + 2) + 1 from rfl, step _ 1 _ (by omega), show n + 2 = (n + 1) + 1 from rfl, step _ 2 _ (by omega)]
  conv => lhs; unfold f_m_rescale_48
  rw [if_pos (by decide)]
theorem m_resc (sh : shM T) (hC : SM S I T) (h : PD S k) (p q : Int32) : ∃ I' T', f_m_rescale 492 p q ((I, T) : Mem) = some ((yResc S p q).1, ((I', T') : Mem)) ∧ SM (yResc S p q).2 I' T' ∧ MF I T I' T' := by
  have hE := h.1.1
  have n4 := hE.1
  unfold f_m_rescale yResc
  rw [sh.ck, m_isOp sh hC.1.1, cI_x, b01_cs]
  cases hp : opOk (yE S) p with
  | false =>
    rw [if_pos (Or.inr rfl), if_neg (by decide)]
    exact ⟨I, T, rfl, hC, MF_rf⟩
  | true =>
    rw [if_pos rfl]
    by_cases hz : p = 0
    · rw [if_pos hz, if_pos (Or.inl hz)]
      exact ⟨I, T, rfl, hC, MF_rf⟩
    obtain ⟨o, ho, rfl⟩ := opOk_t n4 hp
    have h0 : o ≠ 0 := fun z => hz (by rw [z]; rfl)
    have hor : ¬ (nI o = (0 : Int32) ∨ true = false) := fun w => w.elim hz (fun e => by cases e)
    rw [if_neg hz, if_neg hor, m_isIn, cI_x, b01_cs]
    cases hq : inI q 1 3 with
    | false => exact ⟨I, T, rfl, hC, MF_rf⟩
    | true =>
    obtain ⟨n', n1, n2, rfl⟩ := inI_rng (a := 1) (b := 3) (by omega) (by omega) hq
    rw [if_pos rfl, if_pos rfl, nI_clamp (by omega), nI_clamp (by omega)]
    obtain ⟨q1, q2, q3, q4, q5, q6, q7, q8, v1, v2, v3, v4, v5, v6, v7, v8⟩ := hC.1
    obtain ⟨c1, c2, c3, c4, c5, c6, c7, c8⟩ := q1
    obtain ⟨I1, hI1⟩ : ∃ I1, I1 = u2 I 492 18 (qF (yQ S) + nI 1) := ⟨_, rfl⟩
    obtain ⟨I2, hI2⟩ : ∃ I2, I2 = u2 (u2 (u2 I1 515 (spt o 0) (nI 0)) 515 (spt o 1) (nI 0)) 515 (spt o 2) (nI 0) := ⟨_, rfl⟩
    obtain ⟨I3, hI3⟩ : ∃ I3, I3 = u2 I2 497 o (nI n') := ⟨_, rfl⟩
    have f1 : ∀ a, a ≠ 492 → I1 a = I a := fun a ha => by rw [hI1, u2_ne ha]
    have f2 : ∀ a, a ≠ 515 → I2 a = I1 a := fun a ha => by rw [hI2, u2_ne ha, u2_ne ha, u2_ne ha]
    have f3 : ∀ a, a ≠ 497 → I3 a = I2 a := fun a ha => by rw [hI3, u2_ne ha]
    have f : ∀ a, a ≠ 492 → a ≠ 515 → a ≠ 497 → I3 a = I a := fun a g1 g2 g3 => by rw [f3 a g3, f2 a g2, f1 a g1]
    have fj : ∀ j, j ≠ 18 → I3 492 j = I 492 j := fun j hj => by rw [f3 492 (by omega), f2 492 (by omega), hI1, u2_nj rfl hj]
    have hM : MR (esP (yE S) (upw (eP (yE S)) o n')) (yD S) (resQ (yQ S) o) (eQ (yE S)) (eT (yE S)) I3 T := by
      refine ⟨⟨(fj _ (by omega)).trans c1, (fj _ (by omega)).trans c2, (fj _ (by omega)).trans c3, (fj _ (by omega)).trans c4, (fj _ (by omega)).trans c5, (fj _ (by omega)).trans c6, fun x hx => ?_, ?_⟩, ChsM_cg q2 (fun a _ _ => f a (by omega) (by omega) (by omega)), InsM_cg q3 (fun a _ => f a (by omega) (by omega) (by omega)), KyM_cg q4 (f _ (by omega) (by omega) (by omega)) (f _ (by omega) (by omega) (by omega)) (f _ (by omega) (by omega) (by omega)), StM_cg q5 (fun a _ _ => f a (by omega) (by omega) (by omega)), ⟨(fj _ (by omega)).trans q6.1, (fj _ (by omega)).trans q6.2.1, fun w => (fj _ (by omega)).trans (q6.2.2 w)⟩, LaM_cg q7 (f _ (by omega) (by omega) (by omega)) (fj _ (by omega)), RuM_cg q8 (fun a _ => f a (by omega) (by omega) (by omega)), KyM_cg v1 (f _ (by omega) (by omega) (by omega)) (f _ (by omega) (by omega) (by omega)) (f _ (by omega) (by omega) (by omega)), fun s hs => ?_, (fj _ (by omega)).trans v3, (fj _ (by omega)).trans v4, ?_, (fj _ (by omega)).trans v6, (fj _ (by omega)).trans v7, (fj _ (by omega)).trans v8⟩
      · have hx' : x ≤ eN (yE S) + 1 := hx
        obtain ⟨w1, w2, w3, w4⟩ := c7 x hx'
        refine ⟨(congrFun (f 494 (by omega) (by omega) (by omega)) x).trans w1, (congrFun (f 495 (by omega) (by omega) (by omega)) x).trans w2, (congrFun (f 496 (by omega) (by omega) (by omega)) x).trans w3, ?_⟩
        show I3 497 x = nI (upw (eP (yE S)) o n' x)
        by_cases hy : x = o
        · rw [hy, upw_eq, hI3]; exact u2_at rfl rfl
        · rw [upw_ne hy, hI3, u2_nj rfl hy, f2 497 (by omega), f1 497 (by omega)]; exact w4
      · rw [f 498 (by omega) (by omega) (by omega), f 499 (by omega) (by omega) (by omega)]
        exact c8
      · show I3 515 s = nI (if 3 * o ≤ s ∧ s < 3 * o + 3 then 0 else qR (yQ S) s)
        rw [f3 515 (by omega), hI2]
        by_cases h3 : s = spt o 2
        · rw [u2_at rfl h3, if_pos (by rw [h3]; unfold spt; omega)]
        rw [u2_nj rfl h3]
        by_cases h2 : s = spt o 1
        · rw [u2_at rfl h2, if_pos (by rw [h2]; unfold spt; omega)]
        rw [u2_nj rfl h2]
        by_cases h1 : s = spt o 0
        · rw [u2_at rfl h1, if_pos (by rw [h1]; unfold spt; omega)]
        rw [u2_nj rfl h1, if_neg (by unfold spt at h1 h2 h3; omega), f1 515 (by omega)]
        exact v2 s hs
      · rw [f3 492 (by omega), f2 492 (by omega), hI1]; exact u2_at rfl rfl
    obtain ⟨I4, e4, C4, F4⟩ := m_breaks sh hM
    have hE2 : okE (esP (esQ (yE S) 0) (upw (eP (yE S)) o n')) := okE_P (E := esQ (yE S) 0) hE (by omega) ⟨n1, n2⟩
    have hWZ := h.1.2.2.2.2.2.1
    have e5 := res89 (T := T) (E' := esP (esQ (yE S) 0) (upw (eP (yE S)) o n')) (o := o) (w := eP (yE S) o) sh hE2 C4.1 ho C4.2.2.2.1 (fun hky x => hWZ.2.1.1 o (Or.inr (Or.inr hky)) x) (hE.p3 ho) 16 FU 0 0 (by omega) (by unfold FU; omega)
    rw [Nat.zero_add] at e5
    have hup : eP (esP (esQ (yE S) 0) (upw (eP (yE S)) o n')) o = n' := upw_eq
    have hdk : dK (brkD (yD S) (resQ (yQ S) o)) = qV (yQ S) := rfl
    rw [hup, hdk] at e5
    refine ⟨I4, T, ?_, SM_new (S := S) hC C4 (fun j hj => ?_) (fun a ha => ?_), fun a ha => ?_, JM_rf⟩
    · have hp497 : I1 497 o = nI (eP (yE S) o) := by rw [f1 497 (by omega)]; exact (c7 o ho).2.2.2
      have e6 := res48 (I := I1) (o := o) sh (by omega) (nI n') (nI (eP (yE S) o)) 199996
      rw [← hI2] at e6
      rw [sh.gI, v5, show qF (yQ S) + (1 : Int32) = qF (yQ S) + nI 1 from rfl, sh.pI, ← hI1, sh.g6, sh.a497 (by omega), hp497, show (0 : Int32) = nI 0 from rfl, show FU = 199996 + 4 from rfl, e6, sh.g6, sh.s497 (by omega), ← hI3, sh.ck, e4, cV_x, show (0 : Int32) = nI 0 from rfl, e5]
    · rw [F4.2 j (by omega), fj j (by omega)]
    · rw [F4.1 a (by omega) (by omega), f a (by omega) (by omega) (by omega)]
    · rw [F4.1 a (by omega) (by omega), f a (by omega) (by omega) (by omega)]
end
