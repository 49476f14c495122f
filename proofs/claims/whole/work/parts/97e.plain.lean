/-! CALLS: plain, of the class -/
/-- the states after a record at operator o -/
def plU (E : Env) (o : Nat) (k : Fin 16) (v : Int32) (f : Nat → Kst) : Nat → Kst := upw f o (fun k' => if k' = k then (proc (eK E o) (eA E o) (eB E o) (f o k) k v).2 else f o k')
def plO (E : Env) (o : Nat) (k : Fin 16) (v : Int32) (f : Nat → Kst) : List (Fin 16 × Int32) := (proc (eK E o) (eA E o) (eB E o) (f o k) k v).1
def flL (E : Env) (d o : Nat) (l : List (Fin 16 × Int32)) (f : Nat → Kst) : Nat → Kst := l.foldl (fun g x => flw E d o x.1 x.2 g) f
def PkC (I : Iw) (E : Env) (f : Nat → Kst) : Prop := ∀ o, o ≤ eN E + 1 → KyC I (20 + 33 * o + 11) (f o)
section
variable {T T' : Tl} {I I' : Iw} {E E' : Env} {D D' : Dy} {Q Q' : Slow} {S : Sy} {g g' : Nat → Kst} {o i j s c r tk k m : Nat}
theorem flw_s {d : Nat} {k : Fin 16} {v : Int32} {f : Nat → Kst} (ho : o ≤ eN E + 1) : flw E (d + 1) o k v f = flL E d (o + 1) (plO E o k v f) (plU E o k v f) := if_pos ho
theorem flw_e {d : Nat} {k : Fin 16} {v : Int32} {f : Nat → Kst} (ho : ¬ o ≤ eN E + 1) : flw E d o k v f = f := by
  cases d with
  | zero => rfl
  | succ d => exact if_neg ho
theorem flL_c {d : Nat} {x : Fin 16 × Int32} {l : List (Fin 16 × Int32)} {f : Nat → Kst} : flL E d o (x :: l) f = flL E d o l (flw E d o x.1 x.2 f) := rfl
theorem plU_z {k : Fin 16} {v : Int32} {f : Nat → Kst} (h1 : 1 ≤ o) (ho : o ≤ eN E + 1) (h : zK E f) : zK E (plU E o k v f) := by
  unfold plU
  refine zK_upd h (fun kk hk => ⟨by omega, ho, ?_⟩) (fun kk x h6 hx => ?_)
  · cases hky : kyd (eK E o) with
    | true => rfl
    | false =>
      exfalso
      apply hk
      by_cases hz : kk = k
      · rw [if_pos hz, proc_zero.1 hky]
        exact h.1 o (Or.inr (Or.inr hky)) k
      · rw [if_neg hz]
        exact h.1 o (Or.inr (Or.inr hky)) kk
  · by_cases hz : kk = k
    · rw [if_pos hz] at hx
      exact proc_zero.2 h6 (fun y hy => h.2 o k y h6 hy) x hx
    · rw [if_neg hz] at hx
      exact h.2 o kk x h6 hx
theorem flw_z : ∀ (d o : Nat) (k : Fin 16) (v : Int32) (f : Nat → Kst), 1 ≤ o → zK E f → zK E (flw E d o k v f)
  | 0, _, _, _, _, _, h => h
  | d + 1, o, k, v, f, h1, h => by
    by_cases ho : o ≤ eN E + 1
    · rw [flw_s ho]
      have key : ∀ (l : List (Fin 16 × Int32)) (f : Nat → Kst), zK E f → zK E (flL E d (o + 1) l f) := by
        intro l
        induction l with
        | nil => exact fun _ h => h
        | cons x l ih => exact fun f h => by rw [flL_c]; exact ih _ (flw_z d (o + 1) x.1 x.2 f (by omega) h)
      exact key _ _ (plU_z h1 ho h)
    · rw [flw_e ho]; exact h
theorem plnK_0 : plnK E 0 = fun _ _ => none := rfl
theorem plnK_s (hm : m < (eI E).length) : plnK E (m + 1) = flw E 8 1 (eI E)[m].1 (eI E)[m].2 (plnK E m) := by
  unfold plnK
  rw [List.take_add_one, List.getElem?_eq_getElem hm, List.foldl_append]
  rfl
theorem plnK_z : ∀ (m : Nat), m ≤ (eI E).length → zK E (plnK E m)
  | 0, _ => ⟨fun _ _ _ => rfl, fun o k x _ e => by cases e⟩
  | m + 1, h => by
    rw [plnK_s (by omega)]
    exact flw_z 8 1 _ _ _ (Nat.le_refl _) (plnK_z m (by omega))
theorem PkC_cg {f : Nat → Kst} (h : PkC I E f) (e : ∀ a, (∃ x, x ≤ eN E + 1 ∧ 20 + 33 * x + 11 ≤ a ∧ a < 20 + 33 * x + 14) → I' a = I a) : PkC I' E f := fun o ho => KyC_cg (h o ho) (fun a g1 g2 => e a ⟨o, ho, g1, g2⟩)
/-- what a record followed from operator o on leaves as it is -/
def FW (E : Env) (o : Nat) (I I' : Iw) : Prop := ∀ a, (∀ x, o ≤ x → x ≤ eN E + 1 → a < 20 + 33 * x + 11 ∨ 20 + 33 * x + 18 ≤ a) → I' a = I a
theorem FW_tr {I1 I2 : Iw} (h1 : FW E o I I1) (h2 : FW E o I1 I2) : FW E o I I2 := fun a h => (h2 a h).trans (h1 a h)
theorem FW_up {o' : Nat} (h : FW E o' I I') (ho : o ≤ o') : FW E o I I' := fun a ha => h a (fun x h1 h2 => ha x (by omega) h2)
theorem fol_list (sh : shSm T) (hE : okE E) (d : Nat) (ho : o ≤ eN E + 1) (ih : ∀ (k : Fin 16) (v : Int32) (f : Nat → Kst) (I : Iw), CfC I E → PkC I E f → PrC I → ∃ I', f_pl_follow d 10 (nI (o + 1)) (kv k) v ((I, T) : Mem) = some ((I', T) : Mem) ∧ PkC I' E (flw E d (o + 1) k v f) ∧ FW E (o + 1) I I' ∧ PrC I') (L : List (Fin 16 × Int32)) (hL : L.length ≤ 3) : ∀ (rest : List (Fin 16 × Int32)) (n j : Nat) (f : Nat → Kst) (I : Iw), j + rest.length = L.length → (∀ y (h : y < rest.length) (h2 : j + y < L.length), L[j + y] = rest[y]) → rest.length < n → CfC I E → PkC I E f → PrC I → Rng I (20 + 33 * o + 14) 4 (L.map fun x => (x.1, x.2, 0)) → ∃ I', f_pl_follow_56 (f_pl_follow d) n 10 (nI o) (20 + 33 * o + 14) (nI L.length) (nI j) ((I, T) : Mem) = some ((I', T) : Mem) ∧ PkC I' E (flL E d (o + 1) rest f) ∧ FW E (o + 1) I I' ∧ PrC I'
  | rest, 0, j, f, I, _, _, hn, _, _, _, _ => by omega
  | [], n + 1, j, f, I, hj, _, hn, hc, hP, hR, hW => by
    have e : L.length = j := by rw [List.length_nil] at hj; omega
    refine ⟨I, ?_, hP, fun _ _ => rfl, hR⟩
    unfold f_pl_follow_56
    rw [e, if_pos ((nI_leI (by omega) (by omega)).mpr (Nat.le_refl _))]
  | x :: rest, n + 1, j, f, I, hj, hy, hn, hc, hP, hR, hW => by
    rw [List.length_cons] at hj hn
    have n4 := hE.1
    have hx := hy 0 (by rw [List.length_cons]; omega) (by omega)
    simp only [Nat.add_zero, List.getElem_cons_zero] at hx
    have kop := sh.op (o := o) (by omega)
    have krc := kop.2.2.2.2.2.2.2.2.2.2.2.2.2.2.1
    have krc1 := krc.1
    obtain ⟨a1, a2, -⟩ := rc_at (T := T) m3_4 krc hW (j := j) (by rw [List.length_map]; omega)
    simp only [List.getElem_map, hx] at a1 a2
    obtain ⟨I1, e1, p1, f1, r1⟩ := ih x.1 x.2 f I hc hP hR
    have hc1 : CfC I1 E := CfC_cg hc n4 (by rw [f1 10 (fun x h1 h2 => by omega)]) (f1 11 (fun x h1 h2 => by omega)) (fun o' ho' j' h1 h2 => by rw [f1 (20 + 33 * o') (fun x h1 h2 => by omega)])
    have hW1 : Rng I1 (20 + 33 * o + 14) 4 (L.map fun x => (x.1, x.2, 0)) := Rng_cg hW (fun a g1 g2 => f1 a (fun x h1 h2 => by omega))
    obtain ⟨I2, e2, p2, f2, r2⟩ := fol_list sh hE d ho ih L hL rest n (j + 1) (flw E d (o + 1) x.1 x.2 f) I1 (by omega) (fun y h h2 => by
      have h3 := hy (y + 1) (by rw [List.length_cons]; omega) (by omega)
      simp only [List.getElem_cons_succ] at h3
      simp only [show j + 1 + y = j + (y + 1) by omega]
      exact h3) (by omega) hc1 p1 r1 hW1
    refine ⟨I2, ?_, p2, FW_tr f1 f2, r2⟩
    unfold f_pl_follow_56
    rw [if_neg (fun z => by have := (nI_leI (by omega) (by omega)).mp z; omega), ck_t krc1, a1, cI_x, ck_t krc1, a2, cI_x, show nI o + (1 : Int32) = nI (o + 1) from nI_1 _, e1, cV_x, show nI j + (1 : Int32) = nI (j + 1) from nI_1 _, e2]
theorem fol_code (sh : shSm T) (hE : okE E) (hA : okA E) : ∀ (d o : Nat), 1 ≤ o → o ≤ eN E + 2 → eN E + 3 ≤ d + o → ∀ (k : Fin 16) (v : Int32) (f : Nat → Kst) (I : Iw), CfC I E → PkC I E f → PrC I → ∃ I', f_pl_follow d 10 (nI o) (kv k) v ((I, T) : Mem) = some ((I', T) : Mem) ∧ PkC I' E (flw E d o k v f) ∧ FW E o I I' ∧ PrC I'
  | 0, o, h1, h2, h3, _, _, _, _, _, _, _ => by omega
  | d + 1, o, h1, h2, h3, k, v, f, I, hc, hP, hR => by
    have n4 := hE.1
    have ksm := sh.1
    have e0 := sm_opAt (T := T) (o := o) sh hc n4 (by omega)
    unfold f_pl_follow f_pl_follow_0
    rw [ck_t ksm, e0, cR_x]
    by_cases ho : o ≤ eN E + 1
    · have kop := sh.op (o := o) (by omega)
      have k1 := kop.1
      have kr4 := kop.2.2.2.2.2.2.2.2.1
      have kr5 := kop.2.2.2.2.2.2.2.2.2.1
      have ky := kop.2.2.2.2.2.2.2.2.2.2.2.2.2.1
      have krc := kop.2.2.2.2.2.2.2.2.2.2.2.2.2.2.1
      have krc1 := krc.1
      obtain ⟨l0, hl0⟩ := hR o (by omega)
      obtain ⟨I1, e1, f1, r1⟩ := rc_wipe (T := T) m3_4 krc hl0.2.1
      obtain ⟨c1, c2, c3, c4⟩ := hc.2.2.2 o ho
      have g20 : I1 (20 + 33 * o) = I (20 + 33 * o) := f1 _ (by omega)
      have hk3 : eK E o = 3 → ∃ c, c ≤ 3 ∧ eA E o = nI c := fun e3 => by
        by_cases hz : o = eN E + 1
        · have := hE.2.2.2.2.1
          rw [hz, this] at e3
          omega
        · exact hA o h1 (by omega) e3
      obtain ⟨I2, e2, r2, q2, f2⟩ := op_handle (T := T) (I := I1) (a := 20 + 33 * o) (q := 20 + 33 * o + 11) (w := 20 + 33 * o + 14) (kind := eK E o) (av := eA E o) (bv := eB E o) (f := f o) k1 (by rw [g20]; exact c1) (by rw [g20]; exact c2) (by rw [g20]; exact c3) (kind_le hE ho) hk3 ky (KyC_cg (hP o ho) (fun a _ _ => f1 a (by omega))) krc r1 (by omega) (by omega) (by omega) k v 0
      have hlen : (proc (eK E o) (eA E o) (eB E o) (f o k) k v).1.length ≤ 3 := (proc_len (fun e3 => by
        obtain ⟨c, hc1, hc2⟩ := hk3 e3
        rw [hc2, nI_clamp (by omega)]
        exact hc1)).1
      have f12 : ∀ a, (a < 20 + 33 * o + 11 ∨ 20 + 33 * o + 18 ≤ a) → I2 a = I a := fun a ha => by rw [f2 a (by omega) (by omega), f1 a (by omega)]
      have hc2 : CfC I2 E := CfC_cg hc n4 (by rw [f12 10 (by omega)]) (f12 11 (by omega)) (fun o' ho' j' h1 h2 => by rw [f12 (20 + 33 * o') (by omega)])
      have p2 : PkC I2 E (plU E o k v f) := fun o' ho' => by
        unfold plU
        by_cases hz : o' = o
        · subst hz; rw [upw_eq]; exact q2
        · rw [upw_ne hz]; exact KyC_cg (hP o' ho') (fun a _ _ => f12 a (by omega))
      have hR2 : PrC I2 := fun o' ho' => by
        by_cases hz : o' = o
        · subst hz; exact ⟨_, r2⟩
        · obtain ⟨l, hl⟩ := hR o' ho'
          exact ⟨l, Rng_cg hl (fun a _ _ => f12 a (by omega))⟩
      obtain ⟨I3, e3, p3, f3, r3⟩ := fol_list (T := T) (o := o) sh hE d ho (fun k v f I hc hP hR => fol_code sh hE hA d (o + 1) (by omega) (by omega) (by omega) k v f I hc hP hR) (plO E o k v f) hlen (plO E o k v f) FU 0 (plU E o k v f) I2 (by omega) (fun y h h2 => by simp only [Nat.zero_add]) (by unfold FU plO; omega) hc2 p2 hR2 r2
      refine ⟨I3, ?_, ?_, fun a ha => ?_, r3⟩
      · have hsz := r2.2.2.1
        rw [List.length_map] at hsz
        rw [if_pos ho, onR_s, if_neg (fun z => by have := (nI_leI (a := 6) (by omega) (by omega)).mp z; omega), gA_t k1, kr5, onR_s, ck_t krc1, e1, cV_x, gA_t k1, kr4, onR_s, ck_t k1, show (0 : Int32) = nI 0 from rfl, e2, cV_x, gI_t krc1, hsz]
        exact e3
      · rw [flw_s ho]; exact p3
      · rw [f3 a (fun x h1 h2 => ha x (by omega) h2), f12 a (by have := ha o (Nat.le_refl _) ho; omega)]
    · refine ⟨I, ?_, by rw [flw_e ho]; exact hP, fun _ _ => rfl, hR⟩
      rw [if_neg ho, onR_n]
      split <;> rfl
theorem cat_loop (sh : shSm T) (shx : shX T) (hE : okE E) (hA : okA E) {dO' : Nat} (hO : dO' ≤ (eI E).length) : ∀ (d n m : Nat) (I : Iw), m + d = dO' → d < n → CfC I E → I 10 6 = nI dO' → NpC I E → PkC I E (plnK E m) → PrC I → ∃ I', f_pl_catchUp_31 n 488 12 (nI m) ((I, T) : Mem) = some ((u2 I' 488 1 (nI dO'), T) : Mem) ∧ PkC I' E (plnK E dO') ∧ FW E 1 I I' ∧ PrC I'
  | d, 0, m, I, _, hn, _, _, _, _, _ => by omega
  | 0, n + 1, m, I, hm, hn, hc, h6, hN, hP, hR => by
    have e : dO' = m := by omega
    have h60 := hE.2.2.2.2.2.2.2.2.2.2.2
    have k7 := shx.2.2.2.2.2.2.2.2.2.2.2.2.2.2.2.2.1
    have kr7 := shx.2.2.2.2.2.2.2.2.2.2.2.2.2.2.2.2.2.1
    have ksm := sh.1
    refine ⟨I, ?_, by rw [e]; exact hP, fun _ _ => rfl, hR⟩
    unfold f_pl_catchUp_31
    rw [gA_t k7, kr7, onR_s, gI_t ksm, h6, if_pos ((nI_leI (by omega) (by omega)).mpr (by omega)), gA_t k7, kr7, onR_s, gI_t ksm, h6, pI_t k7]
  | d + 1, n + 1, m, I, hm, hn, hc, h6, hN, hP, hR => by
    have h60 := hE.2.2.2.2.2.2.2.2.2.2.2
    have n4 := hE.1
    have k7 := shx.2.2.2.2.2.2.2.2.2.2.2.2.2.2.2.2.1
    have kr7 := shx.2.2.2.2.2.2.2.2.2.2.2.2.2.2.2.2.2.1
    have ksm := sh.1
    have krc := sh.2.2.2.2.2.2.2.2.2.2.2.2.1
    have krc1 := krc.1
    have hlt : m < (eI E).length := by omega
    obtain ⟨a1, a2, -⟩ := rc_at (T := T) m3_64 krc hN (j := m) (by rw [List.length_map]; omega)
    simp only [List.getElem_map] at a1 a2
    obtain ⟨I1, e1, p1, f1, r1⟩ := fol_code (T := T) sh hE hA 8 1 (by omega) (by omega) (by omega) (eI E)[m].1 (eI E)[m].2 (plnK E m) I hc hP hR
    rw [← plnK_s hlt] at p1
    have hlow : ∀ a, a < 53 → I1 a = I a := fun a ha => f1 a (fun x h1 h2 => by omega)
    have hc1 : CfC I1 E := CfC_cg hc n4 (by rw [hlow 10 (by omega)]) (hlow 11 (by omega)) (fun o' ho' j' h1 h2 => by rw [f1 (20 + 33 * o') (fun x h1 h2 => by omega)])
    obtain ⟨I2, e2, p2, f2, r2⟩ := cat_loop sh shx hE hA hO d n (m + 1) I1 (by omega) (by omega) hc1 (by rw [hlow 10 (by omega)]; exact h6) (NpC_cg hN (fun a _ _ => hlow a (by omega))) p1 r1
    refine ⟨I2, ?_, p2, FW_tr f1 f2, r2⟩
    unfold f_pl_catchUp_31
    rw [gA_t k7, kr7, onR_s, gI_t ksm, h6, if_neg (fun z => by have := (nI_leI (by omega) (by omega)).mp z; omega), gA_t k7, kr7, onR_s, ck_t krc1, a1, cI_x, ck_t krc1, a2, cI_x, show (1 : Int32) = nI 1 from rfl, e1, cV_x, show nI m + nI 1 = nI (m + 1) from nI_1 _]
    exact e2
theorem x_plain (hC : SC S I T) (h : PD S k) (key sec : Int32) : ∃ I' T', f_x_plain 0 key sec ((I, T) : Mem) = some (numA (plnK (yE S) (dO (yD S)) (eN (yE S) + 1)) key sec, ((I', T') : Mem)) ∧ SC S I' T' ∧ KP I T I' T' := by
  have hC' := hC
  obtain ⟨sh, shx, h550, hRm, hnE, ⟨g, hCT⟩, hT, hW, hX, hPl, hPr⟩ := hC
  have hE := h.1.1
  have hA := h.1.2.1
  have n4 := hE.1
  have h60 := hE.2.2.2.2.2.2.2.2.2.2.2
  have hO : dO (yD S) ≤ (eI (yE S)).length := h.1.2.2.1.2.2.2.2.2.2.1
  obtain ⟨x0, -, -, -, x3, x4, -⟩ := id shx
  have ksm := sh.1
  have k12 := sh.2.2.1
  have k7 := shx.2.2.2.2.2.2.2.2.2.2.2.2.2.2.2.2.1
  have kr7 := shx.2.2.2.2.2.2.2.2.2.2.2.2.2.2.2.2.2.1
  have h6 := hCT.2.2.2.2.2.2.2.1.1
  have hNp := hCT.2.2.2.2.2.2.2.2.1
  obtain ⟨m, q1, q2, q3, q4⟩ := hPl
  -- the catching up, from m' records done
  have body : ∀ (m' : Nat) (J : Iw), m' ≤ dO (yD S) → (∀ a, a ≠ 488 → (∀ x, x ≤ eN (yE S) + 1 → a < 20 + 33 * x + 11 ∨ 20 + 33 * x + 14 ≤ a) → J a = I a) → J 488 1 = nI m' → PkC J (yE S) (plnK (yE S) m') → ∃ I', f_pl_catchUp_18 488 ((J, T) : Mem) = some ((I', T) : Mem) ∧ PkC I' (yE S) (plnK (yE S) (dO (yD S))) ∧ PrC I' ∧ I' 488 1 = nI (dO (yD S)) ∧ ∀ a, a ≠ 488 → (∀ x, x ≤ eN (yE S) + 1 → a < 20 + 33 * x + 11 ∨ 20 + 33 * x + 18 ≤ a) → I' a = I a := fun m' J hm' hf h488 hP => by
    have fJ : ∀ a, a ≠ 488 → (∀ x, x ≤ eN (yE S) + 1 → a < 20 + 33 * x + 11 ∨ 20 + 33 * x + 18 ≤ a) → J a = I a := fun a a1 a2 => hf a a1 (fun x hx => by have := a2 x hx; omega)
    have hc : CfC J (yE S) := CfC_cg hCT.1 n4 (by rw [fJ 10 (by omega) (fun x hx => by omega)]) (fJ 11 (by omega) (fun x hx => by omega)) (fun o' ho' j' h1 h2 => by rw [fJ (20 + 33 * o') (by omega) (fun x hx => by omega)])
    have hPrJ : PrC J := fun o ho => by
      obtain ⟨l, hl⟩ := hPr o ho
      exact ⟨l, Rng_cg hl (fun a g1 g2 => hf a (by omega) (fun x hx => by omega))⟩
    obtain ⟨I1, e1, p1, f1, r1⟩ := cat_loop (T := T) sh shx hE hA hO (dO (yD S) - m') FU m' J (by omega) (by unfold FU; omega) hc (by rw [fJ 10 (by omega) (fun x hx => by omega)]; exact h6) (NpC_cg hNp (fun a a1 a2 => fJ a (by omega) (fun x hx => by omega))) hP hPrJ
    refine ⟨u2 I1 488 1 (nI (dO (yD S))), ?_, PkC_cg p1 (fun a ha => ?_), fun o ho => ?_, u2_at rfl rfl, fun a a1 a2 => ?_⟩
    · unfold f_pl_catchUp_18
      rw [gA_t k7, kr7, onR_s, gA_t ksm, k12, onR_s, gI_t k7, h488]
      exact e1
    · obtain ⟨x, hx, g1, g2⟩ := ha
      exact u2_ne (by omega)
    · obtain ⟨l, hl⟩ := r1 o ho
      exact ⟨l, Rng_cg hl (fun a g1 g2 => u2_ne (by omega))⟩
    · rw [u2_ne a1, f1 a (fun x h1 h2 => a2 x h2), fJ a a1 a2]
  have fin : ∃ I', f_pl_catchUp 488 ((I, T) : Mem) = some ((I', T) : Mem) ∧ PkC I' (yE S) (plnK (yE S) (dO (yD S))) ∧ PrC I' ∧ I' 488 1 = nI (dO (yD S)) ∧ ∀ a, a ≠ 488 → (∀ x, x ≤ eN (yE S) + 1 → a < 20 + 33 * x + 11 ∨ 20 + 33 * x + 18 ≤ a) → I' a = I a := by
    unfold f_pl_catchUp
    rw [gI_t k7, q2, gA_t k7, kr7, onR_s, gI_t ksm, h6]
    by_cases hz : m ≤ dO (yD S)
    · rw [if_pos ((nI_leI (by omega) (by omega)).mpr hz)]
      exact body m I hz (fun _ _ _ => rfl) q2 q3
    · obtain ⟨I1, e1, f1, b1, b2, c1⟩ := pl_forget sh shx n4 hCT.1
      rw [if_neg (fun z => hz ((nI_leI (by omega) (by omega)).mp z)), ck_t k7, e1, cV_x]
      exact body 0 I1 (Nat.zero_le _) f1 b1 c1
  obtain ⟨I1, e1, p1, r1, d1, f1⟩ := fin
  have e0 := sm_opAt (T := T) (o := eN (yE S) + 1) sh hCT.1 n4 (by omega)
  rw [if_pos (Nat.le_refl _)] at e0
  have kop := sh.op (o := eN (yE S) + 1) (by omega)
  have k1 := kop.1
  have kr4 := kop.2.2.2.2.2.2.2.2.1
  have ky := kop.2.2.2.2.2.2.2.2.2.2.2.2.2.1
  have fo : ∀ a, a ≠ 488 → (a < 20 ∨ 218 ≤ a ∨ (a - 20) % 33 < 11 ∨ 18 ≤ (a - 20) % 33) → I1 a = I a := fun a a1 a2 => f1 a a1 (fun x hx => by omega)
  refine ⟨I1, T, ?_, ⟨sh, shx, h550, hRm, hnE, ⟨g, CT_pln hE hCT fo⟩, SbC_cg hT (fo 1 (by omega) (by omega)) (fun tv htv => ?_), SbC_cg hW (fo 3 (by omega) (by omega)) (fun tv htv => ?_), ?_, ⟨dO (yD S), hO, d1, p1, fun o ho => ?_⟩, r1⟩, KP_row (fun a a1 a2 => fo a (by omega) (by omega))⟩
  · unfold f_x_plain
    rw [gA_t x0, x3, onR_s, gA_t x0, x3, onR_s, gI_t ksm, hCT.1.1, show nI (eN (yE S)) + (1 : Int32) = nI (eN (yE S) + 1) from nI_1 _, ck_t ksm, e0, cR_x, onR_s, gA_t x0, x4, onR_s, ck_t k7, e1, cV_x, gA_t k1, kr4, onR_s, x_numOf ky (p1 _ (Nat.le_refl _)), cI_x]
  · obtain ⟨tv', t1, t2, t3, -⟩ := hT
    rw [t1] at htv
    cases htv
    exact fo _ (by omega) (by omega)
  · obtain ⟨tv', t1, t2, t3, -⟩ := hW
    rw [t1] at htv
    cases htv
    exact fo _ (by omega) (by omega)
  · unfold ExC
    rw [fo 489 (by omega) (by omega), fo 490 (by omega) (by omega), fo 491 (by omega) (by omega)]
    exact hX
  · by_cases hz : o ≤ eN (yE S) + 1
    · exact ⟨_, p1 o hz⟩
    · obtain ⟨x, hx⟩ := q4 o ho
      exact ⟨x, KyC_cg hx (fun a g1 g2 => f1 a (by omega) (fun y hy => by omega))⟩
end
