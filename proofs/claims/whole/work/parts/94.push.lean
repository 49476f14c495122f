/-! CALLS: push, configure -/
def yPush (S : Sy) (p v : Int32) : Int32 × Sy := if inI p 0 15 && inI v (-99) 99 then (if (eI (yE S)).length = 60 then (-1000000003, S) else (nI ((eI (yE S)).length + 1), (esI (yE S) (eI (yE S) ++ [(Fin.ofNat 16 p.toNatClampNeg, v)]), S.2))) else (-1000000002, S)
def cfE (E : Env) (a b c d : Nat) : Env := esS (esG (esC (esR E d) c) b) a
def yConf (S : Sy) (a b c d : Int32) : Int32 × Sy := if inI a 1 4 && (inI b 1 9 && (inI c 2 4 && inI d 1 5)) then (if qB (yQ S) then (-1000000004, S) else (nI (1000 * eS (yE S) + 100 * eG (yE S) + 10 * eC (yE S) + eR (yE S)), (cfE (yE S) a.toNatClampNeg b.toNatClampNeg c.toNatClampNeg d.toNatClampNeg, S.2))) else (-1000000002, S)
section
variable {T T' : Tl} {I I' : Iw} {E E' : Env} {D D' : Dy} {Q Q' : Slow} {S : Sy} {g g' : Nat → Kst} {o i j s c r tk k m : Nat}
theorem WD_push (h : WD E D Q k) (x : Fin 16 × Int32) (hl : (eI E).length < 60) : WD (esI E (eI E ++ [x])) D Q (k + 1) := by
  obtain ⟨hE, hA, hI, hTI, hW, hZ, hN, hC, ⟨tb, gc, hB, htb, hphi, hgc⟩, hT0, hqc, hqk⟩ := h
  have hlen : (eI E ++ [x]).length = (eI E).length + 1 := by rw [List.length_append]; rfl
  have hdO := hI.2.2.2.2.2.2.1
  refine ⟨okE_I hE (by omega), hA, ⟨hI.1, hI.2.1, hI.2.2.1, hI.2.2.2.1, hI.2.2.2.2.1, hI.2.2.2.2.2.1, ?_, hI.2.2.2.2.2.2.2⟩, hTI, hW, hZ, hN, ⟨?_, fun w => ?_, hC.2.2.1, hC.2.2.2⟩, ⟨tb, gc, hB, htb, ?_, Nat.le_succ_of_le hgc⟩, Nat.le_trans hT0 (by omega), Nat.le_succ_of_le hqc, Nat.le_succ_of_le hqk⟩
  · show dO D ≤ (eI E ++ [x]).length
    omega
  · show qO Q ≤ (eI E ++ [x]).length
    have := hC.1
    omega
  · show qP Q ≤ (eI E ++ [x]).length
    have := hC.2.1 w
    omega
  · have n4 := hE.1
    have e1 : wRc (esI E (eI E ++ [x])) D = wRc E D + (1 + wgt (eN E)) := by
      unfold wRc
      show _ + _ + ((eI E ++ [x]).length - dO D) * (1 + wgt (eN E)) = _
      rw [hlen, show (eI E).length + 1 - dO D = (eI E).length - dO D + 1 by omega, Nat.add_mul, Nat.one_mul, ← Nat.add_assoc]
      rfl
    have e2 : wBr (esI E (eI E ++ [x])) D = wBr E D := rfl
    have e3 : sumN 5 (dAg (esI E (eI E ++ [x])) D) ≤ 45 := by
      have : sumN 5 (dAg (esI E (eI E ++ [x])) D) ≤ sumN 5 (fun _ => 9) := sumN_le (fun s _ => dAg_le)
      have h2 : sumN 5 (fun _ => 9) = 45 := rfl
      omega
    have e4 := wgt4 ⟨eN E, by omega⟩
    simp only at e4
    have e5 : phi E D = wRc E D + wBr E D + sumN 5 (dAg E D) := rfl
    have e6 : phi (esI E (eI E ++ [x])) D = wRc (esI E (eI E ++ [x])) D + wBr (esI E (eI E ++ [x])) D + sumN 5 (dAg (esI E (eI E ++ [x])) D) := rfl
    show (eT E - tb) + phi (esI E (eI E ++ [x])) D + 167 * (60 - (eI E ++ [x]).length) ≤ 10065 + 40 * gc
    rw [e6, e1, e2, hlen]
    rw [e5] at hphi
    omega
theorem PD_push (h : PD S k) (p v : Int32) : PD (yPush S p v).2 (k + 1) := by
  unfold yPush
  split
  · split
    · exact PD_mono h (by omega)
    · rename_i hz
      have := h.1.1.2.2.2.2.2.2.2.2.2.2.2
      exact ⟨WD_push h.1 _ (by omega), h.2⟩
  · exact PD_mono h (by omega)
theorem i16 {p : Int32} : (16 : Int32) ≤ p ↔ (15 : Int32) < p := by
  rw [Int32.le_iff_toInt_le, Int32.lt_iff_toInt_lt, show (16 : Int32).toInt = 16 from rfl, show (15 : Int32).toInt = 15 from rfl]
  omega
theorem plnK_push (x : Fin 16 × Int32) (hm : m ≤ (eI E).length) : plnK (esI E (eI E ++ [x])) m = plnK E m := by
  unfold plnK
  have e0 : eI (esI E (eI E ++ [x])) = eI E ++ [x] := rfl
  rw [e0, List.take_append_of_le_length hm]
  have e : (fun (f : Nat → Kst) (y : Fin 16 × Int32) => flw (esI E (eI E ++ [x])) 8 1 y.1 y.2 f) = fun f y => flw E 8 1 y.1 y.2 f := by
    funext f y
    exact flw_cg rfl rfl rfl rfl 8 1 y.1 y.2 f
  rw [e]
theorem x_push (hC : SC S I T) (h : PD S k) (p v : Int32) : ∃ I' T', f_x_push 0 p v ((I, T) : Mem) = some ((yPush S p v).1, ((I', T') : Mem)) ∧ SC (yPush S p v).2 I' T' ∧ KP I T I' T' := by
  have bad : ∀ {m : Option (Int32 × Mem)}, (inI p 0 15 && inI v (-99) 99) = false → m = some ((-1000000002 : Int32), ((I, T) : Mem)) → ∃ I' T', m = some ((yPush S p v).1, ((I', T') : Mem)) ∧ SC (yPush S p v).2 I' T' ∧ KP I T I' T' := fun hb e => by
    unfold yPush
    rw [hb]
    exact ⟨I, T, e, hC, KP_rf⟩
  unfold f_x_push
  by_cases h1 : p < 0
  · exact bad (by unfold inI; rw [decide_eq_true h1]; rfl) (if_pos h1)
  by_cases h2 : (16 : Int32) ≤ p
  · exact bad (by unfold inI; rw [decide_eq_true (i16.mp h2), decide_eq_false h1]; rfl) (by rw [if_neg h1, if_pos h2])
  have i1 : inI p 0 15 = true := by unfold inI; rw [decide_eq_false (fun z => h2 (i16.mpr z)), decide_eq_false h1]; rfl
  by_cases h3 : v < -99
  · exact bad (by rw [i1]; unfold inI; rw [decide_eq_true h3]; rfl) (by rw [if_neg h1, if_neg h2, if_pos h3])
  by_cases h4 : v ≤ 99
  · have i2 : inI v (-99) 99 = true := by unfold inI; rw [decide_eq_false (Int32.not_lt.mpr h4), decide_eq_false h3]; rfl
    have hr : (inI p 0 15 && inI v (-99) 99) = true := by rw [i1, i2]; rfl
    rw [if_neg h1, if_neg h2, if_neg h3, if_pos h4]
    unfold yPush
    rw [if_pos hr]
    have hC' := hC
    obtain ⟨sh, shx, h550, -, -, ⟨g, hCT⟩, hT, -, -, hP, -⟩ := hC
    have hE := h.1.1
    have h60 := hE.2.2.2.2.2.2.2.2.2.2.2
    obtain ⟨x0, -, -, -, x3, -⟩ := id shx
    have ksm := sh.1
    have k12 := sh.2.2.1
    have krc := sh.2.2.2.2.2.2.2.2.2.2.2.2.1
    have krc1 := krc.1
    have hnp := hCT.2.2.2.2.2.2.2.2.1
    have hsz := hnp.2.2.1
    rw [List.length_map] at hsz
    have l60 : (60 : Int32) = nI 60 := rfl
    rw [gA_t x0, x3, onR_s, gA_t ksm, k12, onR_s, gI_t krc1, hsz, l60]
    by_cases h5 : (eI (yE S)).length = 60
    · rw [if_pos h5, if_neg (fun z => by have := (nI_ltI (b := 60) (by omega) (by omega)).mp z; omega)]
      exact ⟨I, T, rfl, hC', KP_rf⟩
    · obtain ⟨N, a1, a2, rfl⟩ := x_range (a := 0) (b := 15) (by omega) h1 (Int32.not_lt.mp (fun z => h2 (i16.mpr z))) (by omega)
      have hfin : Fin.ofNat 16 (nI N).toNatClampNeg = (⟨N, by omega⟩ : Fin 16) := by
        rw [nI_clamp (by omega)]
        exact Fin.ext (Nat.mod_eq_of_lt (by omega))
      rw [if_neg h5, if_pos ((nI_ltI (b := 60) (by omega) (by omega)).mpr (by omega)), hfin]
      obtain ⟨I1, e1, f1, r1⟩ := rc_add (T := T) m3_64 krc hnp (by rw [List.length_map]; omega) ((⟨N, by omega⟩ : Fin 16), v, 0)
      have hlen : (eI (yE S) ++ [((⟨N, by omega⟩ : Fin 16), v)]).length = (eI (yE S)).length + 1 := by rw [List.length_append]; rfl
      have hE2 : okE (esI (yE S) (eI (yE S) ++ [((⟨N, by omega⟩ : Fin 16), v)])) := okE_I hE (by omega)
      have r2 : NpC I1 (esI (yE S) (eI (yE S) ++ [((⟨N, by omega⟩ : Fin 16), v)])) := by
        show Rng I1 12 64 ((eI (yE S) ++ [((⟨N, by omega⟩ : Fin 16), v)]).map fun x => (x.1, x.2, 0))
        rw [List.map_append]
        exact r1
      have C1 := CT_inp hE2 hCT f1 r2
      have hsz1 : I1 12 5 = nI ((eI (yE S)).length + 1) := by
        have := r2.2.2.1
        rw [List.length_map] at this
        rw [← hlen]
        exact this
      have hPl : PlC I1 (esI (yE S) (eI (yE S) ++ [((⟨N, by omega⟩ : Fin 16), v)])) := by
        obtain ⟨m, p1, p2, p3, p4⟩ := hP
        refine ⟨m, ?_, by rw [f1 488 (by omega)]; exact p2, fun o ho => ?_, fun o ho => ?_⟩
        · show m ≤ (eI (yE S) ++ [((⟨N, by omega⟩ : Fin 16), v)]).length
          omega
        · rw [plnK_push _ p1]
          exact KyC_cg (p3 o ho) (fun a g1 g2 => f1 a (by omega))
        · obtain ⟨x, hx⟩ := p4 o ho
          exact ⟨x, KyC_cg hx (fun a g1 g2 => f1 a (by omega))⟩
      obtain ⟨C4, K4⟩ := SC_new (l' := yT S) hC' C1 (fun a g1 g2 g3 _ => f1 a (by omega)) (SbC_cg hT (f1 1 (by omega)) (fun tv htv => by
        obtain ⟨tv', t1, t2, t3, t4, -⟩ := hT
        rw [t1] at htv
        cases htv
        exact f1 _ (by omega))) hPl
      refine ⟨I1, T, ?_, C4, K4⟩
      have e1' : f_rc_add 12 (nI N) v (0 : Int32) ((I, T) : Mem) = some ((I1, T) : Mem) := e1
      rw [gA_t x0, x3, onR_s, gA_t ksm, k12, onR_s, ck_t krc1, e1', cV_x, gA_t x0, x3, onR_s, gA_t ksm, k12, onR_s, gI_t krc1, hsz1]
  · exact bad (by rw [i1]; unfold inI; rw [decide_eq_true (Int32.not_le.mp h4), decide_eq_false h3]; rfl) (by rw [if_neg h1, if_neg h2, if_neg h3, if_neg h4])
theorem m_push (sh : shM T) (hC : SM S I T) (h : PD S k) (p v : Int32) : ∃ I' T', f_m_push 492 p v ((I, T) : Mem) = some ((yPush S p v).1, ((I', T') : Mem)) ∧ SM (yPush S p v).2 I' T' ∧ MF I T I' T' := by
  have h13 := hC.1.1.2.2.2.2.2.1
  have hE := h.1.1
  have h60 := hE.2.2.2.2.2.2.2.2.2.2.2
  unfold f_m_push yPush
  rw [m_isIn, cI_x, b01_cs]
  cases hp : inI p 0 15 with
  | false => exact ⟨I, T, rfl, hC, MF_rf⟩
  | true =>
    simp only [↓reduceIte]
    rw [m_isIn, cI_x, b01_cs]
    cases hv : inI v (-99) 99 with
    | false => exact ⟨I, T, rfl, hC, MF_rf⟩
    | true =>
      simp only [Bool.true_and, ↓reduceIte]
      have l60 : (60 : Int32) = nI 60 := rfl
      rw [sh.gI, h13, l60]
      by_cases h5 : (eI (yE S)).length = 60
      · rw [if_pos h5, h5]
        exact ⟨I, T, rfl, hC, MF_rf⟩
      · rw [if_neg h5, if_neg (fun z => h5 ((nI_eq (b := 60) (by omega) (by omega)).mp z))]
        unfold inI at hp
        simp only [Bool.and_eq_true, Bool.not_eq_true', decide_eq_false_iff_not] at hp
        obtain ⟨N, a1, a2, rfl⟩ := x_range (a := 0) (b := 15) (by omega) hp.1 (Int32.not_lt.mp hp.2) (by omega)
        have hfin : Fin.ofNat 16 (nI N).toNatClampNeg = (⟨N, by omega⟩ : Fin 16) := by
          rw [nI_clamp (by omega)]
          exact Fin.ext (Nat.mod_eq_of_lt (by omega))
        rw [hfin]
        obtain ⟨I1, hI1⟩ : ∃ I1, I1 = u2 (u2 (u2 I 498 (eI (yE S)).length (nI N)) 499 (eI (yE S)).length v) 492 13 (nI ((eI (yE S)).length + 1)) := ⟨_, rfl⟩
        have hlen : (eI (yE S) ++ [((⟨N, by omega⟩ : Fin 16), v)]).length = (eI (yE S)).length + 1 := by rw [List.length_append]; rfl
        have f : ∀ a, a ≠ 492 → a ≠ 498 → a ≠ 499 → I1 a = I a := fun a g1 g2 g3 => by rw [hI1, u2_ne g1, u2_ne g3, u2_ne g2]
        have fj : ∀ j, j ≠ 13 → I1 492 j = I 492 j := fun j hj => by rw [hI1, u2_nj rfl hj, u2_ne (by omega), u2_ne (by omega)]
        have hl0 := hC.1.1.2.2.2.2.2.2.2
        have h499 : I1 499 = u2 (u2 I 498 (eI (yE S)).length (nI N)) 499 (eI (yE S)).length v 499 := by rw [hI1, u2_ne (by omega)]
        have h498 : I1 498 = u2 I 498 (eI (yE S)).length (nI N) 498 := by rw [hI1, u2_ne (by omega), u2_ne (by omega)]
        have hM := MR_13 (I' := I1) (l := eI (yE S) ++ [((⟨N, by omega⟩ : Fin 16), v)]) hC.1 f fj (by rw [hI1, hlen]; exact u2_at rfl rfl) (fun j hj => by
          rw [h498, h499]
          by_cases hz : j = (eI (yE S)).length
          · subst hz
            rw [u2_at rfl rfl, u2_at rfl rfl]
            simp only [List.getElem_concat_length]
            exact ⟨rfl, trivial⟩
          · have hj2 : j < (eI (yE S)).length := by omega
            rw [u2_nj rfl hz, u2_nj rfl hz, u2_ne (by omega), List.getElem_append_left hj2]
            exact hl0 j hj2)
        refine ⟨I1, T, ?_, SM_new (S := S) hC hM (fun j hj => fj j (by omega)) (fun a ha => f a (by omega) (by omega) (by omega)), MF_row (fun a ha => f a (by omega) (by omega) (by omega))⟩
        have e1 : (u2 (u2 I 498 (eI (yE S)).length (nI N)) 499 (eI (yE S)).length v) 492 13 = nI (eI (yE S)).length := by
          rw [u2_ne (by omega), u2_ne (by omega)]
          exact h13
        have e0 : (u2 I 498 (eI (yE S)).length (nI N)) 492 13 = nI (eI (yE S)).length := by
          rw [u2_ne (by omega)]
          exact h13
        rw [sh.g11, sh.gI, h13, sh.s498 (by omega), sh.g12, sh.gI, e0, sh.s499 (by omega), sh.gI, e1, sh.pI, sh.gI, show nI (eI (yE S)).length + (1 : Int32) = nI ((eI (yE S)).length + 1) from nI_1 _, u2_at rfl rfl, ← hI1]
-- configure
theorem WD_conf {a b c d : Nat} (h : WD E D Q k) (hb : qB Q = false) (ha : 1 ≤ a ∧ a ≤ 4) (hb2 : 1 ≤ b ∧ b ≤ 9) (hc : 2 ≤ c ∧ c ≤ 4) (hd : 1 ≤ d ∧ d ≤ 5) : WD (cfE E a b c d) D Q (k + 1) := by
  obtain ⟨hE, hA, hI, hTI, hW, hZ, hN, hC, ⟨tb, gc, hB, htb, hphi, hgc⟩, hT0, hqc, hqk⟩ := h
  obtain ⟨h1, h2, h3, h4, h5, h6, h7, h8, h9, h10, h11, h12⟩ := hE
  obtain ⟨z1, z2, z3, z4⟩ := hC.2.2.2 hb
  refine ⟨⟨h1, h2, h3, h4, h5, h6, h7, ha, hb2, hc, hd, h12⟩, hA, ⟨fun o i j v => ⟨⟨by rw [z3]; exact Nat.zero_le _, by rw [z3]; exact Nat.zero_le _, fun l hl => by rw [z3] at hl; cases hl⟩, (hI.1 o i j v).2⟩, hI.2.1, hI.2.2.1, hI.2.2.2.1, hI.2.2.2.2⟩, fun o i ho hi => ⟨fun r l e => (by rw [z4] at e; cases e), fun e => ?_⟩, hW, hZ, hN, hC, ⟨tb, gc, hB, htb, hphi, Nat.le_succ_of_le hgc⟩, Nat.le_trans hT0 (by omega), Nat.le_succ_of_le hqc, Nat.le_succ_of_le hqk⟩
  have hv : vS E o i := ⟨Nat.le_succ_of_le ho, hi⟩
  have e1 := (hI.2.2.1 o i hv).2.1 e
  rw [hI.2.2.2.2.2.2.2 z1] at e1
  cases e1
theorem inI_rng {a b : Nat} {p : Int32} (hb : b < 2 ^ 31) (ha : a < 2 ^ 31) (h : inI p (nI a) (nI b) = true) : ∃ N, a ≤ N ∧ N ≤ b ∧ p = nI N := by
  unfold inI at h
  simp only [Bool.and_eq_true, Bool.not_eq_true', decide_eq_false_iff_not] at h
  exact x_range hb h.1 (Int32.not_lt.mp h.2) ha
theorem conf_rng {a b c d : Int32} (h : (inI a 1 4 && (inI b 1 9 && (inI c 2 4 && inI d 1 5))) = true) : ∃ x y z w, (1 ≤ x ∧ x ≤ 4) ∧ (1 ≤ y ∧ y ≤ 9) ∧ (2 ≤ z ∧ z ≤ 4) ∧ (1 ≤ w ∧ w ≤ 5) ∧ a = nI x ∧ b = nI y ∧ c = nI z ∧ d = nI w := by
  rw [Bool.and_eq_true, Bool.and_eq_true, Bool.and_eq_true] at h
  obtain ⟨x, x1, x2, x3⟩ := inI_rng (a := 1) (b := 4) (by omega) (by omega) h.1
  obtain ⟨y, y1, y2, y3⟩ := inI_rng (a := 1) (b := 9) (by omega) (by omega) h.2.1
  obtain ⟨z, z1, z2, z3⟩ := inI_rng (a := 2) (b := 4) (by omega) (by omega) h.2.2.1
  obtain ⟨w, w1, w2, w3⟩ := inI_rng (a := 1) (b := 5) (by omega) (by omega) h.2.2.2
  exact ⟨x, y, z, w, ⟨x1, x2⟩, ⟨y1, y2⟩, ⟨z1, z2⟩, ⟨w1, w2⟩, x3, y3, z3, w3⟩
theorem PD_conf (h : PD S k) (a b c d : Int32) : PD (yConf S a b c d).2 (k + 1) := by
  unfold yConf
  split
  · rename_i hr
    split
    · exact PD_mono h (by omega)
    · rename_i hb
      obtain ⟨x, y, z, w, r1, r2, r3, r4, rfl, rfl, rfl, rfl⟩ := conf_rng hr
      rw [nI_clamp (by omega), nI_clamp (by omega), nI_clamp (by omega), nI_clamp (by omega)]
      exact ⟨WD_conf h.1 (Bool.not_eq_true _ ▸ hb) r1 r2 r3 r4, h.2⟩
  · exact PD_mono h (by omega)
theorem CT_cf {a b c d : Nat} (hE : okE E) (h : CT E D g Q I T) (f : ∀ x, x ≠ 11 → I' x = I x) (h0 : I' 11 0 = nI a) (h1' : I' 11 1 = nI b) (h2' : I' 11 2 = nI c) (h3' : I' 11 3 = nI d) : CT (cfE E a b c d) D g Q I' T := by
  obtain ⟨⟨c1, c2, c3, c4⟩, h2, h3, h4, h5, h6, h7, h8, h9, h10, h11⟩ := h
  have n4 := hE.1
  refine ⟨⟨by rw [f 10 (by omega)]; exact c1, ⟨h0, h1', h2'⟩, h3', fun o ho => ?_⟩, ChsC_cg h2 (fun a _ _ => f a (by omega)), InsC_cg h3 (fun a _ _ _ => f a (by omega)), KsC_cg h4 (fun a _ _ _ _ => f a (by omega)), PeC_cg h5 (fun a _ _ _ _ => f a (by omega)), PgC_cg (E := E) hE h6 (fun o i ho hi => by rw [f _ (by omega)]), StC_cg h7 (fun o ho j _ _ => by rw [f _ (by omega)]), ScC_cg (E := E) h8 (f 10 (by omega)), NpC_cg (E := E) h9 (fun a _ _ => f a (by omega)), LaC_cg h10 (f 18 (by omega)) (fun a ha => f a (by omega)), VsC_cg h11 (fun a _ _ _ _ => f a (by omega)) (fun o i ho hi => by rw [f _ (by omega)]) (by rw [f 10 (by omega)]; exact ⟨rfl, rfl, rfl, rfl, rfl⟩)⟩
  have ho' : o ≤ eN E + 1 := ho
  rw [f _ (by omega)]
  exact c4 o ho
theorem x_confR (hC : SC S I T) (h : PD S k) {x y z w : Nat} (r1 : 1 ≤ x ∧ x ≤ 4) (r2 : 1 ≤ y ∧ y ≤ 9) (r3 : 2 ≤ z ∧ z ≤ 4) (r4 : 1 ≤ w ∧ w ≤ 5) : ∃ I' T', (gA 12 3 ((I, T) : Mem) 0 fun a1 => gI 11 14 ((I, T) : Mem) a1 fun v2 => if v2 = (0 : Int32) then (gA 12 3 ((I, T) : Mem) 0 fun a3 => gA 11 0 ((I, T) : Mem) a3 fun a4 => ck ((I, T) : Mem) a4 10 <| cI (f_se_digits a4 ((I, T) : Mem)) fun v6 M5 => gA 12 3 M5 0 fun a7 => gA 11 0 M5 a7 fun a8 => ck M5 a8 10 <| cV (f_se_change a8 (nI x) (nI y) (nI z) (nI w) M5) fun M9 => some (v6, M9)) else some ((-1000000004 : Int32), ((I, T) : Mem))) = some ((if qB (yQ S) then ((-1000000004, S) : Int32 × Sy) else (nI (1000 * eS (yE S) + 100 * eG (yE S) + 10 * eC (yE S) + eR (yE S)), (cfE (yE S) x y z w, S.2))).1, ((I', T') : Mem)) ∧ SC (if qB (yQ S) then ((-1000000004, S) : Int32 × Sy) else (nI (1000 * eS (yE S) + 100 * eG (yE S) + 10 * eC (yE S) + eR (yE S)), (cfE (yE S) x y z w, S.2))).2 I' T' ∧ KP I T I' T' := by
  have hC' := hC
  obtain ⟨sh, shx, h550, -, -, ⟨g, hCT⟩, hT, -, -, hP, -⟩ := hC
  have hE := h.1.1
  obtain ⟨-, -, -, -, -, -, -, ⟨s1, s2⟩, ⟨g1, g2⟩, ⟨c1, c2⟩, ⟨d1, d2⟩, -⟩ := id hE
  obtain ⟨x0, -, -, -, x3, -⟩ := id shx
  have ksm := sh.1
  have k11r := sh.2.1
  have k11 := sh.2.2.2.2.2.2.1
  have v7 := hCT.2.2.2.2.2.2.2.2.2.2.2.2.2.2.2.2
  rw [gA_t x0, x3, onR_s, gI_t ksm, v7]
  cases hb : qB (yQ S) with
  | true => exact ⟨I, T, rfl, hC', KP_rf⟩
  | false =>
    obtain ⟨⟨q1, q2, q3⟩, q4, -⟩ := hCT.1.2
    obtain ⟨I1, hI1⟩ : ∃ I1, I1 = u2 (u2 (u2 (u2 I 11 0 (nI x)) 11 1 (nI y)) 11 2 (nI z)) 11 3 (nI w) := ⟨_, rfl⟩
    have f : ∀ a, a ≠ 11 → I1 a = I a := fun a ha => by rw [hI1, u2_ne ha, u2_ne ha, u2_ne ha, u2_ne ha]
    have C1 := CT_cf (a := x) (b := y) (c := z) (d := w) (I' := I1) hE hCT f (by rw [hI1, u2_nj rfl (by omega), u2_nj rfl (by omega), u2_nj rfl (by omega)]; exact u2_at rfl rfl) (by rw [hI1, u2_nj rfl (by omega), u2_nj rfl (by omega)]; exact u2_at rfl rfl) (by rw [hI1, u2_nj rfl (by omega)]; exact u2_at rfl rfl) (by rw [hI1]; exact u2_at rfl rfl)
    obtain ⟨C4, K4⟩ := SC_new (l' := yT S) hC' C1 (fun a g1 g2 g3 _ => f a (by omega)) (SbC_cg hT (f 1 (by omega)) (fun tv htv => by
      obtain ⟨tv', t1, t2, t3, t4, -⟩ := hT
      rw [t1] at htv
      cases htv
      exact f _ (by omega))) (PlC_cg (E' := cfE (yE S) x y z w) hP hE.1 rfl rfl rfl rfl rfl (f 488 (by omega)) (fun o ho a g1 g2 => f a (by omega)))
    refine ⟨I1, T, ?_, C4, K4⟩
    have hans : 1000 * eS (yE S) + 100 * eG (yE S) + 10 * eC (yE S) + eR (yE S) = eS (yE S) * 1000 + eG (yE S) * 100 + eC (yE S) * 10 + eR (yE S) := by omega
    have l1 : (1000 : Int32) = nI 1000 := rfl
    have l2 : (100 : Int32) = nI 100 := rfl
    simp only [Bool.false_eq_true, ↓reduceIte]
    rw [hans]
    show (if nI 0 = (0 : Int32) then _ else _) = _
    rw [if_pos (show nI 0 = (0 : Int32) from rfl), gA_t x0, x3, onR_s, gA_t ksm, k11r, onR_s, ck_t k11]
    have e1 : f_se_digits 11 ((I, T) : Mem) = some (nI (eS (yE S) * 1000 + eG (yE S) * 100 + eC (yE S) * 10 + eR (yE S)), ((I, T) : Mem)) := by
      unfold f_se_digits
      simp (disch := omega) only [↓gI_t, ↓pI_t, ↓pZ_t, ↓ck_t, ↓aN_t, ↓cI_x, ↓cV_x, ↓cR_x, ↓onR_s, ↓onR_n, ↓nmI_t, ↓reduceIte, gA_t, aI_t, sI_t, aA_t, aB_t, sB_t, rmI_t, dvI_t, nI_add, pk_mul, pk_sub, nI_leI, nI_ltI, nI_eq, n_leT, n_leF, n_ltT, n_ltF, n_eqT, n_eqF, u2_ne, u2_at, u2_nj, r2_ne, r2_at, ↓i_neg1, m1_ne, m1_en, m1_lt, m1_le, m1_nlt, m1_nle, i_lits, true_and, and_true, k11, q1, q2, q3, q4, l1, l2]
    have e2 : f_se_change 11 (nI x) (nI y) (nI z) (nI w) ((I, T) : Mem) = some ((I1, T) : Mem) := by
      unfold f_se_change
      rw [pI_t k11, pI_t k11, pI_t k11, pI_t k11, hI1]
    rw [e1, cI_x, gA_t x0, x3, onR_s, gA_t ksm, k11r, onR_s, ck_t k11, e2, cV_x]
theorem x_conf (hC : SC S I T) (h : PD S k) (a b c d : Int32) : ∃ I' T', f_x_configure 0 a b c d ((I, T) : Mem) = some ((yConf S a b c d).1, ((I', T') : Mem)) ∧ SC (yConf S a b c d).2 I' T' ∧ KP I T I' T' := by
  have bad : ∀ {m : Option (Int32 × Mem)}, (inI a 1 4 && (inI b 1 9 && (inI c 2 4 && inI d 1 5))) = false → m = some ((-1000000002 : Int32), ((I, T) : Mem)) → ∃ I' T', m = some ((yConf S a b c d).1, ((I', T') : Mem)) ∧ SC (yConf S a b c d).2 I' T' ∧ KP I T I' T' := fun hb e => by
    unfold yConf
    rw [hb]
    exact ⟨I, T, e, hC, KP_rf⟩
  unfold f_x_configure
  by_cases h1 : a < 1
  · exact bad (by unfold inI; rw [decide_eq_true h1]; rfl) (if_pos h1)
  by_cases h2 : (4 : Int32) < a
  · exact bad (by unfold inI; rw [decide_eq_true h2, decide_eq_false h1]; rfl) (by rw [if_neg h1, if_pos h2])
  have i1 : inI a 1 4 = true := by unfold inI; rw [decide_eq_false h2, decide_eq_false h1]; rfl
  by_cases h3 : b < 1
  · exact bad (by rw [i1]; unfold inI; rw [decide_eq_true h3]; rfl) (by rw [if_neg h1, if_neg h2, if_pos h3])
  by_cases h4 : b ≤ 9
  case neg => exact bad (by rw [i1]; unfold inI; rw [decide_eq_true (Int32.not_le.mp h4), decide_eq_false h3]; rfl) (by rw [if_neg h1, if_neg h2, if_neg h3, if_neg h4])
  have i2 : inI b 1 9 = true := by unfold inI; rw [decide_eq_false (Int32.not_lt.mpr h4), decide_eq_false h3]; rfl
  by_cases h5 : c < 2
  · exact bad (by rw [i1, i2]; unfold inI; rw [decide_eq_true h5]; rfl) (by rw [if_neg h1, if_neg h2, if_neg h3, if_pos h4, if_pos h5])
  by_cases h6 : (4 : Int32) < c
  · exact bad (by rw [i1, i2]; unfold inI; rw [decide_eq_true h6, decide_eq_false h5]; rfl) (by rw [if_neg h1, if_neg h2, if_neg h3, if_pos h4, if_neg h5, if_pos h6])
  have i3 : inI c 2 4 = true := by unfold inI; rw [decide_eq_false h6, decide_eq_false h5]; rfl
  by_cases h7 : d < 1
  · exact bad (by rw [i1, i2, i3]; unfold inI; rw [decide_eq_true h7]; rfl) (by rw [if_neg h1, if_neg h2, if_neg h3, if_pos h4, if_neg h5, if_neg h6, if_pos h7])
  by_cases h8 : d ≤ 5
  case neg => exact bad (by rw [i1, i2, i3]; unfold inI; rw [decide_eq_true (Int32.not_le.mp h8), decide_eq_false h7]; rfl) (by rw [if_neg h1, if_neg h2, if_neg h3, if_pos h4, if_neg h5, if_neg h6, if_neg h7, if_neg h8])
  have i4 : inI d 1 5 = true := by unfold inI; rw [decide_eq_false (Int32.not_lt.mpr h8), decide_eq_false h7]; rfl
  have hr : (inI a 1 4 && (inI b 1 9 && (inI c 2 4 && inI d 1 5))) = true := by rw [i1, i2, i3, i4]; rfl
  rw [if_neg h1, if_neg h2, if_neg h3, if_pos h4, if_neg h5, if_neg h6, if_neg h7, if_pos h8]
  unfold yConf
  rw [if_pos hr]
  obtain ⟨x, y, z, w, r1, r2, r3, r4, rfl, rfl, rfl, rfl⟩ := conf_rng hr
  rw [nI_clamp (by omega), nI_clamp (by omega), nI_clamp (by omega), nI_clamp (by omega)]
  exact x_confR hC h r1 r2 r3 r4
theorem m_conf (sh : shM T) (hC : SM S I T) (h : PD S k) (a b c d : Int32) : ∃ I' T', f_m_configure 492 a b c d ((I, T) : Mem) = some ((yConf S a b c d).1, ((I', T') : Mem)) ∧ SM (yConf S a b c d).2 I' T' ∧ MF I T I' T' := by
  have bad : ∀ {m : Option (Int32 × Mem)}, (inI a 1 4 && (inI b 1 9 && (inI c 2 4 && inI d 1 5))) = false → m = some ((-1000000002 : Int32), ((I, T) : Mem)) → ∃ I' T', m = some ((yConf S a b c d).1, ((I', T') : Mem)) ∧ SM (yConf S a b c d).2 I' T' ∧ MF I T I' T' := fun hb e => by
    unfold yConf
    rw [hb]
    exact ⟨I, T, e, hC, MF_rf⟩
  unfold f_m_configure
  rw [m_isIn, cI_x, b01_cs]
  cases i1 : inI a 1 4 with
  | false => exact bad (by rw [i1]; rfl) rfl
  | true =>
  rw [if_pos rfl, m_isIn, cI_x, b01_cs]
  cases i2 : inI b 1 9 with
  | false => exact bad (by rw [i1, i2]; rfl) rfl
  | true =>
  rw [if_pos rfl, m_isIn, cI_x, b01_cs]
  cases i3 : inI c 2 4 with
  | false => exact bad (by rw [i1, i2, i3]; rfl) rfl
  | true =>
  rw [if_pos rfl, m_isIn, cI_x, b01_cs]
  cases i4 : inI d 1 5 with
  | false => exact bad (by rw [i1, i2, i3, i4]; rfl) rfl
  | true =>
  have hr : (inI a 1 4 && (inI b 1 9 && (inI c 2 4 && inI d 1 5))) = true := by rw [i1, i2, i3, i4]; rfl
  unfold yConf
  rw [if_pos rfl, if_pos hr]
  obtain ⟨x, y, z, w, r1, r2, r3, r4, rfl, rfl, rfl, rfl⟩ := conf_rng hr
  rw [nI_clamp (by omega), nI_clamp (by omega), nI_clamp (by omega), nI_clamp (by omega)]
  have hE := h.1.1
  obtain ⟨-, -, -, -, -, -, -, ⟨s1, s2⟩, ⟨g1, g2⟩, ⟨c1, c2⟩, ⟨d1, d2⟩, -⟩ := id hE
  have v6 := hC.1.2.2.2.2.2.2.2.2.2.2.2.2.2.1
  rw [sh.gI, v6]
  cases hb : qB (yQ S) with
  | true => exact ⟨I, T, rfl, hC, MF_rf⟩
  | false =>
    obtain ⟨⟨p1, p2, p3, p4, p5, p6, p7, p8⟩, q2, q3, q4, q5, q6, q7, q8, q9⟩ := hC.1
    obtain ⟨I1, hI1⟩ : ∃ I1, I1 = u2 (u2 (u2 (u2 I 492 7 (nI x)) 492 8 (nI y)) 492 9 (nI z)) 492 10 (nI w) := ⟨_, rfl⟩
    have f : ∀ a, a ≠ 492 → I1 a = I a := fun a ha => by rw [hI1, u2_ne ha, u2_ne ha, u2_ne ha, u2_ne ha]
    have fj : ∀ j, (j < 7 ∨ 10 < j) → I1 492 j = I 492 j := fun j hj => by rw [hI1, u2_nj rfl (by omega), u2_nj rfl (by omega), u2_nj rfl (by omega), u2_nj rfl (by omega)]
    have hM : MR (cfE (yE S) x y z w) (yD S) (yQ S) (eQ (yE S)) (eT (yE S)) I1 T := by
      refine ⟨⟨(fj _ (by omega)).trans p1, ?_, ?_, ?_, ?_, (fj _ (by omega)).trans p6, ?_, ?_⟩, ChsM_cg q2 (fun a _ _ => f a (by omega)), InsM_cg q3 (fun a _ => f a (by omega)), KyM_cg q4 (f _ (by omega)) (f _ (by omega)) (f _ (by omega)), StM_cg q5 (fun a _ _ => f a (by omega)), ScM_cg (E := yE S) q6 (fun j _ => fj j (by omega)), LaM_cg q7 (f _ (by omega)) (fj _ (by omega)), RuM_cg q8 (fun a _ => f a (by omega)), VsM_cg q9 (fun a _ => f a (by omega)) (fun j _ => fj j (by omega))⟩
      · rw [hI1, u2_nj rfl (by omega), u2_nj rfl (by omega), u2_nj rfl (by omega)]; exact u2_at rfl rfl
      · rw [hI1, u2_nj rfl (by omega), u2_nj rfl (by omega)]; exact u2_at rfl rfl
      · rw [hI1, u2_nj rfl (by omega)]; exact u2_at rfl rfl
      · rw [hI1]; exact u2_at rfl rfl
      · rw [f 494 (by omega), f 495 (by omega), f 496 (by omega), f 497 (by omega)]
        exact p7
      · rw [f 498 (by omega), f 499 (by omega)]
        exact p8
    refine ⟨I1, T, ?_, SM_new (S := S) hC hM (fun j hj => fj j (by omega)) (fun a ha => f a (by omega)), MF_row (fun a ha => f a (by omega))⟩
    have l1 : (1000 : Int32) = nI 1000 := rfl
    have l2 : (100 : Int32) = nI 100 := rfl
    simp only [Bool.false_eq_true, ↓reduceIte]
    show (if nI 0 = (0 : Int32) then _ else _) = _
    rw [if_pos (show nI 0 = (0 : Int32) from rfl), sh.gI, sh.gI, sh.gI, sh.gI, p2, p3, p4, p5, sh.pI, sh.pI, sh.pI, sh.pI, ← hI1]
    simp (disch := omega) only [↓gI_t, ↓pI_t, ↓pZ_t, ↓ck_t, ↓aN_t, ↓cI_x, ↓cV_x, ↓cR_x, ↓onR_s, ↓onR_n, ↓nmI_t, ↓reduceIte, gA_t, aI_t, sI_t, aA_t, aB_t, sB_t, rmI_t, dvI_t, nI_add, pk_mul, pk_sub, nI_leI, nI_ltI, nI_eq, n_leT, n_leF, n_ltT, n_ltF, n_eqT, n_eqF, u2_ne, u2_at, u2_nj, r2_ne, r2_at, ↓i_neg1, m1_ne, m1_en, m1_lt, m1_le, m1_nlt, m1_nle, i_lits, true_and, and_true, l1, l2]
end
