/-! CALLS: write -/
def wS (S : Sy) (l : List Int32) : Sy := (yE S, yD S, yQ S, yT S, l, yX S)
def numL (x : Int32) : List Int32 := (if x < 0 then [nI 45] else []) ++ ((if 10 ≤ x.toInt.natAbs then [nI (48 + x.toInt.natAbs / 10)] else []) ++ [nI (48 + x.toInt.natAbs % 10)])
def ltr : Nat → Nat
  | 0 => 109
  | 1 => 102
  | 2 => 107
  | 3 => 99
  | 4 => 115
  | 5 => 100
  | _ => 114
def pD (p : Nat) : List Int32 := if 1 < p then [nI (48 + p)] else []
def stgN (E : Env) (o : Nat) : List Int32 := if eK E o < 5 then [nI 40] ++ (numL (eA E o) ++ ((if eK E o < 3 then [nI 44] ++ numL (eB E o) else []) ++ [nI 41])) else []
def stg (E : Env) (o : Nat) : List Int32 := [nI (ltr (eK E o))] ++ (stgN E o ++ pD (eP E o))
def wrF (E : Env) : Nat → Nat → List Int32
  | 0, _ => if 1 < eP E (eN E + 1) then [nI 36] ++ [nI (48 + eP E (eN E + 1))] else []
  | d + 1, o => (if 1 < o then [nI 124] else []) ++ (stg E o ++ wrF E d (o + 1))
section
variable {T T' : Tl} {I I' : Iw} {E E' : Env} {D D' : Dy} {Q Q' : Slow} {S : Sy} {g g' : Nat → Kst} {o i j s c r tk k m : Nat}
theorem num_len {x : Int32} : (numL x).length ≤ 3 := by
  unfold numL
  rw [List.length_append, List.length_append]
  split <;> split <;> simp only [List.length_cons, List.length_nil] <;> omega
theorem num_chk {x : Int32} (h1 : -99 ≤ x.toInt) (h2 : x.toInt ≤ 99) : chk (numL x) := by
  intro y hy
  unfold numL at hy
  have hm : x.toInt.natAbs ≤ 99 := by omega
  rcases List.mem_append.mp hy with hy | hy
  · split at hy
    · rw [List.mem_singleton.mp hy]; exact ⟨45, by omega, rfl⟩
    · cases hy
  · rcases List.mem_append.mp hy with hy | hy
    · split at hy
      · rw [List.mem_singleton.mp hy]; exact ⟨_, by omega, rfl⟩
      · cases hy
    · rw [List.mem_singleton.mp hy]; exact ⟨_, by omega, rfl⟩
theorem chk_app {a b : List Int32} (ha : chk a) (hb : chk b) : chk (a ++ b) := fun x hx => (List.mem_append.mp hx).elim (ha x) (hb x)
theorem chk_1 {a : Nat} (h : a < 128) : chk [nI a] := fun x hx => ⟨a, h, List.mem_singleton.mp hx⟩
theorem chk_0 : chk [] := fun x hx => by cases hx
theorem ltr_lt (a : Nat) : ltr a < 128 := by unfold ltr; split <;> omega
theorem stg_ok (hE : okE E) (hB : okB E) (h1 : 1 ≤ o) (ho : o ≤ eN E) : (stg E o).length ≤ 11 ∧ chk (stg E o) := by
  obtain ⟨⟨a1, a2⟩, b1, b2⟩ := hB o h1 ho
  have p3 := hE.p3 (o := o) (by omega)
  have la := num_len (x := eA E o)
  have lb := num_len (x := eB E o)
  have hN : (stgN E o).length ≤ 9 ∧ chk (stgN E o) := by
    unfold stgN
    split
    · refine ⟨?_, chk_app (chk_1 (by omega)) (chk_app (num_chk a1 a2) (chk_app ?_ (chk_1 (by omega))))⟩
      · split <;> simp only [List.length_append, List.length_cons, List.length_nil] <;> omega
      · split
        · exact chk_app (chk_1 (by omega)) (num_chk b1 b2)
        · exact chk_0
    · exact ⟨Nat.zero_le _, chk_0⟩
  have hP : (pD (eP E o)).length ≤ 1 ∧ chk (pD (eP E o)) := by
    unfold pD
    split
    · exact ⟨Nat.le_refl _, chk_1 (by omega)⟩
    · exact ⟨Nat.zero_le _, chk_0⟩
  unfold stg
  refine ⟨?_, chk_app (chk_1 (ltr_lt _)) (chk_app hN.2 hP.2)⟩
  rw [List.length_append, List.length_append, List.length_singleton]
  omega
theorem wrF_ok (hE : okE E) (hB : okB E) : ∀ (d o : Nat), 1 ≤ o → o + d = eN E + 1 → (wrF E d o).length ≤ 12 * d + 2 ∧ chk (wrF E d o)
  | 0, o, _, _ => by
    have p3 := hE.p3 (o := eN E + 1) (by omega)
    unfold wrF
    split
    · exact ⟨Nat.le_refl _, chk_app (chk_1 (by omega)) (chk_1 (by omega))⟩
    · exact ⟨Nat.zero_le _, chk_0⟩
  | d + 1, o, h1, ho => by
    obtain ⟨s1, s2⟩ := stg_ok hE hB h1 (show o ≤ eN E by omega)
    obtain ⟨w1, w2⟩ := wrF_ok hE hB d (o + 1) (by omega) (by omega)
    unfold wrF
    refine ⟨?_, chk_app ?_ (chk_app s2 w2)⟩
    · rw [List.length_append, List.length_append]
      have : (if 1 < o then [nI 124] else []).length ≤ 1 := by split <;> simp only [List.length_cons, List.length_nil] <;> omega
      omega
    · split
      · exact chk_1 (by omega)
      · exact chk_0
-- the class
theorem sb_clr {p : Nat} {l : List Int32} (hk : tK T p = 14) (h : SbC I T p l) (hl : l.length ≤ 1000) : ∃ I', f_sb_setLength p (0 : Int32) ((I, T) : Mem) = some ((I', T) : Mem) ∧ SbC I' T p [] ∧ Gr p I T I' T := by
  obtain ⟨tv, h1, h2, h3, h4, h5, h6, h7, h8, h9, h10⟩ := h
  have hpt : p ≠ tv := fun z => by rw [← z, hk] at h2; omega
  have hens : f_ab_ensureCapacityInternal p (nI 0) ((I, T) : Mem) = some ((I, T) : Mem) := by
    unfold f_ab_ensureCapacityInternal
    rw [gA_t hk, h1, onR_s, aN_t (by omega) (by omega), gI_t hk, h8, sh0, if_pos (show nI 0 - nI (tL T tv) ≤ (0 : Int32) by
      rw [Int32.le_iff_toInt_le, nI_subI (by omega) (by omega), show (0 : Int32).toInt = 0 from rfl]
      omega)]
  have fin : ∀ J : Iw, (∀ a, a ≠ p → J a = I a) → (∀ j, j ≠ 2 → J p j = I p j) → Gr p I T J T → ∃ I', f_ab_setLength_76 p (nI 0) ((J, T) : Mem) = some ((I', T) : Mem) ∧ SbC I' T p [] ∧ Gr p I T I' T := fun J f g G => by
    refine ⟨u2 J p 3 (nI 0), ?_, ⟨tv, h1, h2, h3, h4, Nat.zero_le _, h6, h7, ?_, u2_at rfl rfl, fun j hj => absurd hj (Nat.not_lt_zero _)⟩, Gr_tr G (Gr_w h1 (Or.inl rfl))⟩
    · unfold f_ab_setLength_76
      rw [pI_t hk]
    · rw [u2_nj rfl (by omega), g 1 (by omega)]; exact h8
  unfold f_sb_setLength f_ab_setLength
  rw [ck_t hk, show (0 : Int32) = nI 0 from rfl, if_pos (show nI 0 ≤ nI 0 by decide), ck_t hk, hens, cV_x, gI_t hk, h9, if_pos ((nI_leI (by omega) (by omega)).mpr (Nat.zero_le _)), gI_t hk, h9]
  by_cases hz : l.length ≤ 0
  · obtain ⟨I1, e1, s1, g1⟩ := fin I (fun _ _ => rfl) (fun _ _ => rfl) Gr_rf
    refine ⟨I1, ?_, s1, g1⟩
    rw [if_pos ((nI_leI (by omega) (by omega)).mpr hz), e1, cV_x]
  · obtain ⟨I1, e1, s1, g1⟩ := fin (u2 I p 2 (nI 1)) (fun a h => u2_ne h) (fun j h => u2_nj rfl h) (Gr_w h1 (Or.inl rfl))
    refine ⟨I1, ?_, s1, g1⟩
    rw [if_neg (fun z => hz ((nI_leI (by omega) (by omega)).mp z)), show (1 : Int32) = nI 1 from rfl, pZ_t hk (by omega), e1, cV_x]
theorem w_app {l : List Int32} (hC : SC (wS S l) I T) (hE : okE (yE S)) (hl : l.length < 90) (hc : c < 128) : ∃ I' T', f_sb_append0 3 (nI c) ((I, T) : Mem) = some (some 3, ((I', T') : Mem)) ∧ SC (wS S (l ++ [nI c])) I' T' ∧ KP I T I' T' := by
  have hR := SC_RmP hC
  have hC' := hC
  obtain ⟨sh, shx, h550, -, -, -, hT, hW, -⟩ := hC
  have k3 := shx.2.2.2.2.2.2.2.2.1
  obtain ⟨I1, T1, e1, s1, g1⟩ := sb_app (Or.inr rfl) k3 h550 hW hR hl hc
  obtain ⟨C2, K2⟩ := SC_gr (Or.inr rfl) hC' hE hW g1 (SbC_gr (by omega) (Or.inl rfl) (Or.inr rfl) h550 hR hT hW g1) s1
  exact ⟨I1, T1, e1, C2, K2⟩
theorem dig100 : ∀ m : Fin 100, (inR (nI m.val) (oldB 1).length = true ∧ (oldB 1).getD (nI m.val).toNatClampNeg 0 = nI (48 + m.val % 10)) ∧ (inR (nI m.val) (oldB 2).length = true ∧ (oldB 2).getD (nI m.val).toNatClampNeg 0 = nI (48 + m.val / 10)) := by decide +kernel
theorem neg100 : ∀ m : Fin 100, (decide (-(nI m.val) ≤ (-10 : Int32)) = decide (10 ≤ m.val)) ∧ (decide (-(nI m.val) ≤ (10 : Int32) * (-10 : Int32)) = false) ∧ (decide ((-100 : Int32) < -(nI m.val)) = true) ∧ (decide ((-9 : Int32) ≤ -(nI m.val)) = decide (m.val ≤ 9)) ∧ -(-(nI m.val)) = nI m.val := by decide +kernel
theorem aO1 {α : Type} {m : Nat} {k : Int32 → Option α} (h : m < 100) : aO 1 (nI m) k = k (nI (48 + m % 10)) := (if_pos ⟨Or.inl rfl, (dig100 ⟨m, h⟩).1.1⟩).trans (by rw [(dig100 ⟨m, h⟩).1.2])
theorem aO2 {α : Type} {m : Nat} {k : Int32 → Option α} (h : m < 100) : aO 2 (nI m) k = k (nI (48 + m / 10)) := (if_pos ⟨Or.inr (Or.inl rfl), (dig100 ⟨m, h⟩).2.1⟩).trans (by rw [(dig100 ⟨m, h⟩).2.2])
theorem x_abs {x : Int32} (h1 : -99 ≤ x.toInt) (h2 : x.toInt ≤ 99) : (x < 0 → x = -(nI x.toInt.natAbs)) ∧ (¬ x < 0 → x = nI x.toInt.natAbs) := by
  have e0 : (0 : Int32).toInt = 0 := rfl
  refine ⟨fun h => ?_, fun h => ?_⟩
  · rw [Int32.lt_iff_toInt_lt, e0] at h
    refine Int32.toInt_inj.mp ?_
    rw [Int32.toInt_neg, nI_toInt (by omega), Int.bmod_def]
    split <;> omega
  · rw [Int32.lt_iff_toInt_lt, e0] at h
    refine Int32.toInt_inj.mp ?_
    rw [nI_toInt (by omega)]
    omega
theorem st_size {m : Nat} (h : m < 100) (d : Nat) (M : Mem) : f_in_stringSize_11 (-(nI m)) (nI d) M = some (nI ((if 10 ≤ m then 2 else 1) + d), M) := by
  obtain ⟨t1, t2, -⟩ := neg100 ⟨m, h⟩
  simp only at t1 t2
  unfold f_in_stringSize_11
  rw [show FU = 199997 + 1 + 1 + 1 from rfl]
  unfold f_in_stringSize_16
  rw [if_neg (by decide)]
  by_cases hz : 10 ≤ m
  · rw [if_pos (of_decide_eq_true (t1.trans (decide_eq_true hz))), if_pos hz]
    unfold f_in_stringSize_16
    rw [if_neg (by decide), if_neg (of_decide_eq_false t2), show (1 : Int32) + 1 = nI 2 from rfl, nI_add]
  · rw [if_neg (of_decide_eq_false (t1.trans (decide_eq_false hz))), if_neg hz, show (1 : Int32) = nI 1 from rfl, nI_add]
theorem w_num {l : List Int32} {x : Int32} (hC : SC (wS S l) I T) (hE : okE (yE S)) (hl : l.length < 80) (h1 : -99 ≤ x.toInt) (h2 : x.toInt ≤ 99) : ∃ I' T', f_sb_append1 3 x ((I, T) : Mem) = some (some 3, ((I', T') : Mem)) ∧ SC (wS S (l ++ numL x)) I' T' ∧ KP I T I' T' := by
  have hR := SC_RmP hC
  have hC' := hC
  obtain ⟨sh, shx, h550, -, -, -, hT, hW0, -⟩ := hC
  have hW : SbC I T 3 l := hW0
  have k3 := shx.2.2.2.2.2.2.2.2.1
  obtain ⟨xn, xp⟩ := x_abs h1 h2
  obtain ⟨m, hm⟩ : ∃ m, m = x.toInt.natAbs := ⟨_, rfl⟩
  rw [← hm] at xn xp
  have hm99 : m < 100 := by omega
  obtain ⟨t1, t2, t3, t4, t5⟩ := neg100 ⟨m, hm99⟩
  simp only at t1 t2 t3 t4 t5
  obtain ⟨d, hd⟩ : ∃ d, d = if x < 0 then 1 else 0 := ⟨_, rfl⟩
  obtain ⟨sz, hsz⟩ : ∃ sz, sz = (if 10 ≤ m then 2 else 1) + d := ⟨_, rfl⟩
  have hd1 : d ≤ 1 := by rw [hd]; split <;> omega
  have hsz3 : sz ≤ 3 ∧ 1 ≤ sz := by rw [hsz]; split <;> omega
  have esz : f_in_stringSize x ((I, T) : Mem) = some (nI sz, ((I, T) : Mem)) := by
    unfold f_in_stringSize
    by_cases hx : x < 0
    · rw [if_pos hx, xn hx, show (1 : Int32) = nI 1 from rfl, st_size hm99, hsz, hd, if_pos hx]
    · rw [if_neg hx, xp hx, show (0 : Int32) = nI 0 from rfl, st_size hm99, hsz, hd, if_neg hx]
  obtain ⟨I1, T1, e1, S1, ⟨tv, q1, q2⟩, G1⟩ := sb_ens (Or.inr rfl) k3 h550 hW hR (need := l.length + sz) (by omega) (by omega)
  have h9 : I 3 3 = nI l.length := by obtain ⟨tv', -, -, -, -, -, -, -, -, q, -⟩ := hW; exact q
  obtain ⟨tv', u1, u2', u3, u4, u5, u6, u7, u8, u9, u10⟩ := S1
  have ev : tv' = tv := by rw [q1] at u1; cases u1; rfl
  subst ev
  have hk1 : tK T1 3 = 14 := by rw [(G1.1 3 (by omega)).1]; exact k3
  have hpt : (3 : Nat) ≠ tv' := fun z => by rw [← z, hk1] at u2'; omega
  -- the digits, written from the last
  have hdig : ∃ J, f_in_getChars x (nI (l.length + sz)) tv' ((I1, T1) : Mem) = some (nI l.length, ((J, T1) : Mem)) ∧ (∀ a, a ≠ tv' → J a = I1 a) ∧ Gr 3 I1 T1 J T1 ∧ ∀ j (h : j < (l ++ numL x).length), J tv' j = (l ++ numL x)[j] := by
    have hnl : (numL x).length = sz := by
      unfold numL
      rw [List.length_append, List.length_append, ← hm, hsz, hd]
      split <;> split <;> simp only [List.length_cons, List.length_nil]
    have e104 : ∀ (J : Iw), f_in_getChars_104 tv' (nI (l.length + d)) (nI d) ((J, T1) : Mem) = some (nI l.length, ((if d = 0 then J else u2 J tv' l.length (nI 45), T1) : Mem)) := fun J => by
      unfold f_in_getChars_104
      by_cases hz : d = 0
      · rw [hz, if_pos (show nI 0 = (0 : Int32) from rfl), if_pos rfl]
        rfl
      · have d1 : d = 1 := by omega
        rw [d1, if_neg (show ¬ nI 1 = (0 : Int32) by decide), if_neg (by omega), show nI (l.length + 1) + (-1 : Int32) = nI l.length by
          rw [show nI (l.length + 1) + (-1 : Int32) = nI (l.length + 1) - 1 from (Int32.sub_eq_add_neg (nI (l.length + 1)) 1).symm]
          exact pk_sub (a := l.length + 1) (b := 1) (by omega), show (45 : Int32) = nI 45 from rfl, sBb_t u2' (by omega) (by omega) (by omega)]
    have hgc : f_in_getChars x (nI (l.length + sz)) tv' ((I1, T1) : Mem) = f_in_getChars_22 FU (-(nI m)) tv' (nI (l.length + sz)) (nI d) ((I1, T1) : Mem) := by
      unfold f_in_getChars f_in_getChars_12
      by_cases hx : x < 0
      · have hx2 : ¬ (0 : Int32) ≤ x := Int32.not_le.mpr hx
        rw [if_neg hx2, if_neg (show ¬ (1 : Int32) = 0 by decide), xn hx, hd, if_pos hx]
        rfl
      · have hx2 : (0 : Int32) ≤ x := Int32.not_lt.mp hx
        rw [if_pos hx2, if_pos rfl, hd, if_neg hx, xp hx]
        rfl
    have hmin1 : ∀ a, 1 ≤ a → nI a + (-1 : Int32) = nI (a - 1) := fun a ha => by
      rw [show nI a + (-1 : Int32) = nI a - 1 from (Int32.sub_eq_add_neg (nI a) 1).symm]
      exact pk_sub (a := a) (b := 1) ha
    have hidxL : ∀ j (h : j < (l ++ numL x).length) (hj : j < l.length), (l ++ numL x)[j] = l[j] := fun j h hj => List.getElem_append_left hj
    have hidxR : ∀ j (h : j < (l ++ numL x).length), ¬ j < l.length → (l ++ numL x)[j] = if d = 1 ∧ j = l.length then nI 45 else if 10 ≤ m ∧ j = l.length + d then nI (48 + m / 10) else nI (48 + m % 10) := fun j h hj => by
      have h2 : (l ++ numL x)[j]? = some (if d = 1 ∧ j = l.length then nI 45 else if 10 ≤ m ∧ j = l.length + d then nI (48 + m / 10) else nI (48 + m % 10)) := by
        have h3 := h
        rw [List.length_append, hnl] at h3
        have hsz' := hsz
        rw [List.getElem?_append_right (by omega)]
        unfold numL
        rw [← hm]
        by_cases hx : x < 0
        · have d1 : d = 1 := by rw [hd, if_pos hx]
          rw [if_pos hx]
          by_cases h10 : 10 ≤ m
          · rw [if_pos h10] at hsz'
            rw [if_pos h10]
            rcases (by omega : j - l.length = 0 ∨ j - l.length = 1 ∨ j - l.length = 2) with e | e | e
            · rw [e, if_pos (by omega)]; rfl
            · rw [e, if_neg (by omega), if_pos (by omega)]; rfl
            · rw [e, if_neg (by omega), if_neg (by omega)]; rfl
          · rw [if_neg h10] at hsz'
            rw [if_neg h10]
            rcases (by omega : j - l.length = 0 ∨ j - l.length = 1) with e | e
            · rw [e, if_pos (by omega)]; rfl
            · rw [e, if_neg (by omega), if_neg (by omega)]; rfl
        · have d1 : d = 0 := by rw [hd, if_neg hx]
          rw [if_neg hx]
          by_cases h10 : 10 ≤ m
          · rw [if_pos h10] at hsz'
            rw [if_pos h10]
            rcases (by omega : j - l.length = 0 ∨ j - l.length = 1) with e | e
            · rw [e, if_neg (by omega), if_pos (by omega)]; rfl
            · rw [e, if_neg (by omega), if_neg (by omega)]; rfl
          · rw [if_neg h10] at hsz'
            rw [if_neg h10]
            have e : j - l.length = 0 := by omega
            rw [e, if_neg (by omega), if_neg (by omega)]; rfl
      rw [List.getElem?_eq_getElem h] at h2
      exact Option.some.inj h2
    by_cases h10 : 10 ≤ m
    · have hs2 : sz = 2 + d := by rw [hsz, if_pos h10]
      obtain ⟨J1, hJ1⟩ : ∃ J1, J1 = u2 (u2 I1 tv' (l.length + sz - 1) (nI (48 + m % 10))) tv' (l.length + sz - 1 - 1) (nI (48 + m / 10)) := ⟨_, rfl⟩
      have GJ : Gr 3 I1 T1 J1 T1 := by rw [hJ1]; exact Gr_tr (Gr_w u1 (Or.inr rfl)) (Gr_w u1 (Or.inr rfl))
      refine ⟨if d = 0 then J1 else u2 J1 tv' l.length (nI 45), ?_, fun a ha => ?_, ?_, fun j hj => ?_⟩
      · rw [hgc, show FU = 199999 + 1 from rfl]
        unfold f_in_getChars_22
        rw [if_pos (of_decide_eq_true t3), t5, aO1 hm99, hmin1 _ (by omega), sBb_t u2' (by omega) (by omega) (by omega), if_neg (of_decide_eq_false (t4.trans (decide_eq_false (by omega)))), aO2 hm99, hmin1 _ (by omega), sBb_t u2' (by omega) (by omega) (by omega), ← hJ1, show l.length + sz - 1 - 1 = l.length + d by omega, e104]
      · split
        · rw [hJ1, u2_ne ha, u2_ne ha]
        · rw [u2_ne ha, hJ1, u2_ne ha, u2_ne ha]
      · split
        · exact GJ
        · exact Gr_tr GJ (Gr_w u1 (Or.inr rfl))
      · have hj0 := hj
        rw [List.length_append, hnl] at hj
        have hv : ∀ y, J1 tv' y = if y = l.length + sz - 1 - 1 then nI (48 + m / 10) else if y = l.length + sz - 1 then nI (48 + m % 10) else I1 tv' y := fun y => by
          rw [hJ1]
          by_cases hy : y = l.length + sz - 1 - 1
          · rw [if_pos hy]; exact u2_at rfl hy
          · rw [if_neg hy, u2_nj rfl hy]
            by_cases hy2 : y = l.length + sz - 1
            · rw [if_pos hy2]; exact u2_at rfl hy2
            · rw [if_neg hy2]; exact u2_nj rfl hy2
        by_cases hjl : j < l.length
        · rw [hidxL j hj0 hjl]
          split
          · rw [hv, if_neg (by omega), if_neg (by omega)]; exact u10 j hjl
          · rw [u2_nj rfl (by omega), hv, if_neg (by omega), if_neg (by omega)]; exact u10 j hjl
        · rw [hidxR j hj0 hjl]
          split
          · rename_i hd0
            rw [hv]
            by_cases hy : j = l.length + d
            · rw [if_pos (by omega), if_neg (by omega), if_pos ⟨h10, hy⟩]
            · rw [if_neg (by omega), if_pos (by omega), if_neg (by omega), if_neg (by omega)]
          · rename_i hd0
            by_cases hy0 : j = l.length
            · rw [u2_at rfl hy0, if_pos (by omega)]
            · rw [u2_nj rfl hy0, hv]
              by_cases hy : j = l.length + d
              · rw [if_pos (by omega), if_neg (by omega), if_pos ⟨h10, hy⟩]
              · rw [if_neg (by omega), if_pos (by omega), if_neg (by omega), if_neg (by omega)]
    · have hs2 : sz = 1 + d := by rw [hsz, if_neg h10]
      obtain ⟨J1, hJ1⟩ : ∃ J1, J1 = u2 I1 tv' (l.length + sz - 1) (nI (48 + m % 10)) := ⟨_, rfl⟩
      have GJ : Gr 3 I1 T1 J1 T1 := by rw [hJ1]; exact Gr_w u1 (Or.inr rfl)
      refine ⟨if d = 0 then J1 else u2 J1 tv' l.length (nI 45), ?_, fun a ha => ?_, ?_, fun j hj => ?_⟩
      · rw [hgc, show FU = 199999 + 1 from rfl]
        unfold f_in_getChars_22
        rw [if_pos (of_decide_eq_true t3), t5, aO1 hm99, hmin1 _ (by omega), sBb_t u2' (by omega) (by omega) (by omega), if_pos (of_decide_eq_true (t4.trans (decide_eq_true (by omega)))), ← hJ1, show l.length + sz - 1 = l.length + d by omega, e104]
      · split
        · rw [hJ1, u2_ne ha]
        · rw [u2_ne ha, hJ1, u2_ne ha]
      · split
        · exact GJ
        · exact Gr_tr GJ (Gr_w u1 (Or.inr rfl))
      · have hj0 := hj
        rw [List.length_append, hnl] at hj
        have hv : ∀ y, J1 tv' y = if y = l.length + sz - 1 then nI (48 + m % 10) else I1 tv' y := fun y => by
          rw [hJ1]
          by_cases hy : y = l.length + sz - 1
          · rw [if_pos hy]; exact u2_at rfl hy
          · rw [if_neg hy]; exact u2_nj rfl hy
        by_cases hjl : j < l.length
        · rw [hidxL j hj0 hjl]
          split
          · rw [hv, if_neg (by omega)]; exact u10 j hjl
          · rw [u2_nj rfl (by omega), hv, if_neg (by omega)]; exact u10 j hjl
        · rw [hidxR j hj0 hjl]
          split
          · rw [hv, if_pos (by omega), if_neg (by omega), if_neg (by omega)]
          · by_cases hy0 : j = l.length
            · rw [u2_at rfl hy0, if_pos (by omega)]
            · rw [u2_nj rfl hy0, hv, if_pos (by omega), if_neg (by omega), if_neg (by omega)]
  obtain ⟨J, eJ, fJ, gJ, rJ⟩ := hdig
  have hnl : (l ++ numL x).length = l.length + sz := by
    rw [List.length_append]
    unfold numL
    rw [List.length_append, List.length_append, ← hm, hsz, hd]
    split <;> split <;> simp only [List.length_cons, List.length_nil]
  have G2 : Gr 3 I T (u2 J 3 3 (nI (l.length + sz))) T1 := Gr_tr G1 (Gr_tr gJ (Gr_w u1 (Or.inl rfl)))
  have S2 : SbC (u2 J 3 3 (nI (l.length + sz))) T1 3 (l ++ numL x) := ⟨tv', u1, u2', u3, u4, by omega, u6, u7, by rw [u2_nj rfl (by omega), fJ 3 hpt]; exact u8, by rw [hnl]; exact u2_at rfl rfl, fun j hj => by rw [u2_ne (fun z => hpt z.symm)]; exact rJ j hj⟩
  obtain ⟨C3, K3⟩ := SC_gr (Or.inr rfl) hC' hE hW G2 (SbC_gr (by omega) (Or.inl rfl) (Or.inr rfl) h550 hR hT hW G2) S2
  refine ⟨_, T1, ?_, C3, K3⟩
  have elat : f_ab_isLatin1 3 ((I1, T1) : Mem) = some (1, ((I1, T1) : Mem)) := by
    unfold f_ab_isLatin1
    rw [gI_t hk1, u8, if_pos (show nI 0 = (0 : Int32) from rfl)]
  unfold f_sb_append1 f_ab_append1
  rw [ck_t k3, gI_t k3, h9, esz, cI_x, ck_t k3, nI_add, e1, cV_x, ck_t hk1, elat, cI_x, if_neg (show ¬ (1 : Int32) = 0 by decide), gA_t hk1, u1, onR_s, eJ, cI_x, pI_t hk1, cR_x, onR_s]
end
