/-! CALLS: readPipeline of the class -/
def ncf (cs : List Cf) (n : Nat) (E : Env) (o : Nat) : Cf := if o = 0 then (eK E 0, eA E 0, eB E 0, eP E 0) else if o ≤ cs.length then cs.getD (o - 1) (0, 0, 0, 1) else (8, 0, 0, n)
def nE (E : Env) (cs : List Cf) (n : Nat) : Env := esP (esB (esA (esK (esN E cs.length) (fun o => (ncf cs n E o).1)) (fun o => (ncf cs n E o).2.1)) (fun o => (ncf cs n E o).2.2.1)) (fun o => (ncf cs n E o).2.2.2)
def yRead (S : Sy) : Int32 × Sy := if (rdA (yT S)).1 then (nI (rdA (yT S)).2.2.1.length, begS (nE (yE S) (rdA (yT S)).2.2.1 (rdA (yT S)).2.2.2, yD S, yQ S, [], yW S, yX S)) else (-2000 - nI (rdA (yT S)).2.1, (yE S, yD S, yQ S, [], yW S, yX S))
section
variable {T T' : Tl} {I I' : Iw} {E E' : Env} {D D' : Dy} {Q Q' : Slow} {S : Sy} {g g' : Nat → Kst} {o i j s c r tk k m p : Nat} {l : List Int32}
theorem rdL_len : ∀ (d p : Nat), (rdL l d p).2.2.length ≤ d
  | 0, _ => Nat.le_refl _
  | d + 1, p => by
    unfold rdL
    split
    · exact Nat.zero_le _
    · split
      · show [(rdS l p).2.2].length ≤ d + 1
        rw [List.length_singleton]; omega
      · show ((rdS l p).2.2 :: (rdL l d ((rdS l p).2.1 + 1)).2.2).length ≤ d + 1
        rw [List.length_cons]
        have := rdL_len d ((rdS l p).2.1 + 1)
        omega
theorem num_bd (hc : chk l) (h : (rdN l p).1 = true) : -99 ≤ (rdN l p).2.2.toInt ∧ (rdN l p).2.2.toInt ≤ 99 := by
  have dv : ∀ x, dgt x = true → ∃ a, a ≤ 9 ∧ x = nI (48 + a) := fun x hx => by
    obtain ⟨c, c1, c2, rfl⟩ := inI_rng (a := 48) (b := 57) (by omega) (by omega) hx
    exact ⟨c - 48, by omega, by rw [show 48 + (c - 48) = c by omega]⟩
  have key : ∀ (b : Bool) (a : Nat), a ≤ 99 → -99 ≤ (sgv b (nI a)).toInt ∧ (sgv b (nI a)).toInt ≤ 99 := fun b a ha => by
    unfold sgv
    cases b with
    | false => rw [if_neg (by decide), nI_toInt (by omega)]; omega
    | true =>
      rw [if_pos rfl, Int32.toInt_neg, nI_toInt (by omega), Int.bmod_def]
      split <;> omega
  unfold rdN at h ⊢
  cases h1 : dgt (sg l (sk l p 45)) with
  | false => rw [h1] at h; cases h
  | true =>
    obtain ⟨a, a1, a2⟩ := dv _ h1
    rw [if_pos rfl]
    have e1 : sg l (sk l p 45) - 48 = nI a := by
      rw [a2, show (48 : Int32) = nI 48 from rfl, pk_sub (by omega), show 48 + a - 48 = a by omega]
    cases h2 : dgt (sg l (sk l p 45 + 1)) with
    | false =>
      rw [if_neg (by decide)]
      show -99 ≤ (sgv _ (sg l (sk l p 45) - 48)).toInt ∧ (sgv _ (sg l (sk l p 45) - 48)).toInt ≤ 99
      rw [e1]
      exact key _ a (by omega)
    | true =>
      obtain ⟨b, b1, b2⟩ := dv _ h2
      rw [if_pos rfl]
      show -99 ≤ (sgv _ ((sg l (sk l p 45) - 48) * 10 + sg l (sk l p 45 + 1) - 48)).toInt ∧ (sgv _ ((sg l (sk l p 45) - 48) * 10 + sg l (sk l p 45 + 1) - 48)).toInt ≤ 99
      rw [e1, b2, show (10 : Int32) = nI 10 from rfl, pk_mul, nI_add, show (48 : Int32) = nI 48 from rfl, pk_sub (by omega), show a * 10 + (48 + b) - 48 = a * 10 + b by omega]
      exact key _ _ (by omega)
theorem fin1_bd : 1 ≤ (fin1 l p).2 ∧ (fin1 l p).2 ≤ 3 := by
  unfold fin1
  split
  · rename_i h
    have := dg3_val h
    exact this.2
  · exact ⟨Nat.le_refl _, by show (1 : Nat) ≤ 3; omega⟩
theorem rdS_ok (hc : chk l) (h : (rdS l p).1 = true) : cfO (rdS l p).2.2 := by
  unfold rdS at h ⊢
  cases hx : lix (sg l p) 0 7 with
  | none => rw [hx] at h; cases h
  | some kd =>
    have hk := lix_lt 7 0 kd hx
    rw [hx] at h
    simp only at h ⊢
    by_cases h5 : 5 ≤ kd
    · rw [if_pos h5]
      exact ⟨by show kd < 7; omega, fun z => by have : kd = 3 := z; omega, ⟨by show -99 ≤ (0 : Int32).toInt; decide, by show (0 : Int32).toInt ≤ 99; decide⟩, ⟨by show -99 ≤ (0 : Int32).toInt; decide, by show (0 : Int32).toInt ≤ 99; decide⟩, fin1_bd⟩
    rw [if_neg h5] at h ⊢
    by_cases h40 : ¬ sg l (p + 1) = 40
    · rw [if_pos h40] at h; cases h
    rw [if_neg h40] at h ⊢
    cases hn : (rdN l (p + 1 + 1)).1 with
    | false => rw [hn, if_pos rfl] at h; cases h
    | true =>
    rw [hn, if_neg (by decide)] at h
    rw [if_neg (by decide)]
    have nb := num_bd hc hn
    cases hr : rng kd (rdN l (p + 1 + 1)).2.2 with
    | false => rw [hr, if_pos rfl] at h; cases h
    | true =>
    rw [hr, if_neg (by decide)] at h
    rw [if_neg (by decide)]
    by_cases h3 : 3 ≤ kd
    · rw [if_pos h3] at h ⊢
      by_cases h41 : ¬ sg l (rdN l (p + 1 + 1)).2.1 = 41
      · rw [if_pos h41] at h; cases h
      rw [if_neg h41] at h ⊢
      refine ⟨by show kd < 7; omega, fun z => ?_, nb, ⟨by show -99 ≤ (0 : Int32).toInt; decide, by show (0 : Int32).toInt ≤ 99; decide⟩, fin1_bd⟩
      have z' : kd = 3 := z
      rw [z'] at hr
      have hr' : inI (rdN l (p + 1 + 1)).2.2 0 3 = true := hr
      obtain ⟨a, -, a1, a2⟩ := inI_rng (a := 0) (b := 3) (by omega) (by omega) hr'
      exact ⟨a, a1, a2⟩
    · rw [if_neg h3] at h ⊢
      by_cases h44 : ¬ sg l (rdN l (p + 1 + 1)).2.1 = 44
      · rw [if_pos h44] at h; cases h
      rw [if_neg h44] at h ⊢
      cases hn2 : (rdN l ((rdN l (p + 1 + 1)).2.1 + 1)).1 with
      | false => rw [hn2, if_pos rfl] at h; cases h
      | true =>
      rw [hn2, if_neg (by decide)] at h
      rw [if_neg (by decide)]
      by_cases h41 : ¬ sg l (rdN l ((rdN l (p + 1 + 1)).2.1 + 1)).2.1 = 41
      · rw [if_pos h41] at h; cases h
      rw [if_neg h41] at h ⊢
      exact ⟨by show kd < 7; omega, fun z => by have : kd = 3 := z; omega, nb, num_bd hc hn2, fin1_bd⟩
theorem rdL_ok (hc : chk l) : ∀ (d p : Nat), (rdL l d p).1 = true → ∀ c, c ∈ (rdL l d p).2.2 → cfO c
  | 0, p, _, c, h => by cases h
  | d + 1, p, ht, c, h => by
    unfold rdL at ht h
    cases h1 : (rdS l p).1 with
    | false => rw [h1, if_pos rfl] at ht; cases ht
    | true =>
      rw [h1, if_neg (by decide)] at ht h
      by_cases hz : d = 0 ∨ ¬ sg l (rdS l p).2.1 = 124
      · rw [if_pos hz] at h
        rw [List.mem_singleton.mp h]
        exact rdS_ok hc h1
      · rw [if_neg hz] at ht h
        rcases List.mem_cons.mp h with h | h
        · rw [h]; exact rdS_ok hc h1
        · exact rdL_ok hc d _ ht c h
theorem rdA_ok (hc : chk l) (h : (rdA l).1 = true) : (rdA l).2.2.1.length ≤ 4 ∧ (∀ c, c ∈ (rdA l).2.2.1 → cfO c) ∧ 1 ≤ (rdA l).2.2.2 ∧ (rdA l).2.2.2 ≤ 3 := by
  have hH : (rdH l).1 = true → (rdH l).2.2.length ≤ 4 ∧ ∀ c, c ∈ (rdH l).2.2 → cfO c := fun ht => by
    unfold rdH at ht ⊢
    split
    · exact ⟨Nat.zero_le _, fun c hc => by cases hc⟩
    · rename_i hz
      rw [if_neg hz] at ht
      exact ⟨rdL_len 4 0, rdL_ok hc 4 0 ht⟩
  unfold rdA at h ⊢
  cases h1 : (rdH l).1 with
  | false => rw [h1, if_pos rfl] at h; cases h
  | true =>
    obtain ⟨a1, a2⟩ := hH h1
    rw [h1, if_neg (by decide)] at h
    rw [if_neg (by decide)]
    by_cases h36 : sg l (rdH l).2.1 = 36
    · rw [if_pos h36] at h ⊢
      cases hd : dg3 (sg l ((rdH l).2.1 + 1)) with
      | false => rw [hd, if_pos rfl] at h; cases h
      | true =>
        rw [if_neg (by decide)]
        exact ⟨a1, a2, (dg3_val hd).2⟩
    · rw [if_neg h36]
      exact ⟨a1, a2, Nat.le_refl _, by show (1 : Nat) ≤ 3; omega⟩
theorem ncf_ok {cs : List Cf} {n : Nat} (h : ∀ c, c ∈ cs → cfO c) (h1 : 1 ≤ o) (ho : o ≤ cs.length) : cfO (ncf cs n E o) := by
  unfold ncf
  rw [if_neg (by omega), if_pos ho, List.getD_eq_getElem?_getD, List.getElem?_eq_getElem (show o - 1 < cs.length by omega)]
  exact h _ (List.getElem_mem (by omega))
theorem nE_ok {cs : List Cf} {n : Nat} (hE : okE E) (hl : cs.length ≤ 4) (h : ∀ c, c ∈ cs → cfO c) (h1 : 1 ≤ n) (h3 : n ≤ 3) : okE (nE E cs n) ∧ okA (nE E cs n) ∧ okB (nE E cs n) := by
  obtain ⟨-, q2, q3, q4, -, -, -, q8⟩ := hE
  refine ⟨⟨hl, fun o ho => ?_, ?_, ?_, ?_, fun o h1' ho => ?_, fun o h1' ho e => ?_, q8⟩, fun o h1' ho e => ?_, fun o h1' ho => ?_⟩
  · show 1 ≤ (ncf cs n E o).2.2.2 ∧ (ncf cs n E o).2.2.2 ≤ 3
    by_cases h0 : o = 0
    · unfold ncf
      rw [if_pos h0]
      show 1 ≤ eP E 0 ∧ eP E 0 ≤ 3
      omega
    · by_cases hz : o ≤ cs.length
      · exact (ncf_ok h (by omega) hz).2.2.2.2
      · unfold ncf
        rw [if_neg h0, if_neg hz]
        exact ⟨h1, h3⟩
  · show (ncf cs n E 0).2.2.2 = 1
    unfold ncf
    rw [if_pos rfl]
    exact q3
  · show (ncf cs n E 0).1 = 7
    unfold ncf
    rw [if_pos rfl]
    exact q4
  · show (ncf cs n E (cs.length + 1)).1 = 8
    unfold ncf
    rw [if_neg (by omega), if_neg (by omega)]
  · exact (ncf_ok (E := E) (n := n) h h1' ho).1
  · obtain ⟨a, a1, a2⟩ := (ncf_ok (E := E) (n := n) h h1' ho).2.1 e
    show ((ncf cs n E o).2.1).toNatClampNeg ≤ 3
    rw [a2, nI_clamp (by omega)]
    exact a1
  · exact (ncf_ok (E := E) (n := n) h h1' ho).2.1 e
  · obtain ⟨-, -, a, b, -⟩ := ncf_ok (E := E) (n := n) h h1' ho
    exact ⟨a, b⟩
theorem PD_read (h : PD S k) : PD (yRead S).2 (k + 1) := by
  have h2 := PD_mono h (show k ≤ k + 1 by omega)
  have hnil : (([] : List Int32).length ≤ 60 ∧ chk []) := ⟨Nat.zero_le _, chk_0⟩
  unfold yRead
  split
  · rename_i ht
    obtain ⟨a1, a2, a3, a4⟩ := rdA_ok h.2.2.1.2 ht
    obtain ⟨o1, o2, o3⟩ := nE_ok h.1.1 a1 a2 a3 a4
    exact PD_beg (S := (nE (yE S) (rdA (yT S)).2.2.1 (rdA (yT S)).2.2.2, yD S, yQ S, [], yW S, yX S)) o1 o2 o3 ⟨hnil, h2.2.2.2⟩
  · exact ⟨h2.1, h2.2.1, hnil, h2.2.2.2⟩
theorem kr_32 : ∀ (d s p n : Nat) (I : Iw), s + (d + 1) = 4 → d < n → Kr l I T p → ∃ I', f_rd_readStages_32 (f_rd_readStages_2 n) 5 (nI s) ((I, T) : Mem) = some (nI (b01 (rdL l (d + 1) p).1), ((I', T) : Mem)) ∧ (∀ a, (a < 5 ∨ 9 < a) → I' a = I a) ∧ I' 5 6 = I 5 6 ∧ Kr l I' T (rdL l (d + 1) p).2.1 ∧ ((rdL l (d + 1) p).1 = true → I' 5 5 = nI (s + (rdL l (d + 1) p).2.2.length) ∧ ∀ j (h : j < (rdL l (d + 1) p).2.2.length), Rw I' (s + j) (rdL l (d + 1) p).2.2[j]) ∧ ∀ a j, j < s → 6 ≤ a → a < 10 → I' a j = I a j
  | d, s, p, 0, I, _, hn, _ => by omega
  | d, s, p, n + 1, I, hs, hn, h => by
    have k5 := h.1.2.2.2.2.2.2.2.2.2.1
    obtain ⟨I1, e1, f1, K1, v1⟩ := kr_stage h (show s < 4 by omega)
    unfold f_rd_readStages_32
    rw [ck_t k5, e1, cI_x, b01_cs]
    have hL : rdL l (d + 1) p = if (rdS l p).1 = false then (false, (rdS l p).2.1, []) else if d = 0 ∨ ¬ sg l (rdS l p).2.1 = 124 then (true, (rdS l p).2.1, [(rdS l p).2.2]) else ((rdL l d ((rdS l p).2.1 + 1)).1, (rdL l d ((rdS l p).2.1 + 1)).2.1, (rdS l p).2.2 :: (rdL l d ((rdS l p).2.1 + 1)).2.2) := rfl
    rw [hL]
    cases hok : (rdS l p).1 with
    | false =>
      rw [if_neg (by decide), if_pos rfl]
      exact ⟨I1, rfl, f1.1, f1.2.1 6 (by omega) (by omega), K1, (fun z => by cases z), fun a j hj a1 a2 => f1.2.2 a j (by omega) a1 a2⟩
    | true =>
      have hR := v1 hok
      rw [if_pos rfl, if_neg (by decide), show nI s + (1 : Int32) = nI (s + 1) from nI_1 _, pI_t k5]
      obtain ⟨J, hJ⟩ : ∃ J, J = u2 I1 5 5 (nI (s + 1)) := ⟨_, rfl⟩
      have KJ : Kr l J T (rdS l p).2.1 := by rw [hJ]; exact Kr_row K1 (fun a ha => u2_ne (by omega)) (by rw [u2_nj rfl (by omega)]; exact K1.2.2.2.2.1) K1.2.2.2.2.2
      have gJ : ∀ a, a ≠ 5 → J a = I1 a := fun a ha => by rw [hJ]; exact u2_ne ha
      have J5 : J 5 5 = nI (s + 1) := by rw [hJ]; exact u2_at rfl rfl
      have J6 : J 5 6 = I 5 6 := by rw [hJ, u2_nj rfl (by omega)]; exact f1.2.1 6 (by omega) (by omega)
      have hRJ : Rw J s (rdS l p).2.2 := by
        unfold Rw at hR ⊢
        rw [gJ 6 (by omega), gJ 7 (by omega), gJ 8 (by omega), gJ 9 (by omega)]
        exact hR
      rw [← hJ]
      have one : ∃ I', (some ((1 : Int32), ((J, T) : Mem)) : Option (Int32 × Mem)) = some (nI (b01 ((true, (rdS l p).2.1, [(rdS l p).2.2]) : Bool × Nat × List Cf).1), ((I', T) : Mem)) ∧ (∀ a, (a < 5 ∨ 9 < a) → I' a = I a) ∧ I' 5 6 = I 5 6 ∧ Kr l I' T ((true, (rdS l p).2.1, [(rdS l p).2.2]) : Bool × Nat × List Cf).2.1 ∧ (((true, (rdS l p).2.1, [(rdS l p).2.2]) : Bool × Nat × List Cf).1 = true → I' 5 5 = nI (s + ((true, (rdS l p).2.1, [(rdS l p).2.2]) : Bool × Nat × List Cf).2.2.length) ∧ ∀ j (h : j < ((true, (rdS l p).2.1, [(rdS l p).2.2]) : Bool × Nat × List Cf).2.2.length), Rw I' (s + j) ((true, (rdS l p).2.1, [(rdS l p).2.2]) : Bool × Nat × List Cf).2.2[j]) ∧ ∀ a j, j < s → 6 ≤ a → a < 10 → I' a j = I a j := ⟨J, rfl, fun a ha => by rw [gJ a (by omega), f1.1 a ha], J6, KJ, fun _ => ⟨J5, fun j hj => by
        have hj1 : j < 1 := hj
        have e0 : j = 0 := by omega
        subst e0
        exact hRJ⟩, fun a j hj a1 a2 => by rw [gJ a (by omega), f1.2.2 a j (by omega) a1 a2]⟩
      conv => enter [1, I', 1, 1]; unfold f_rd_readStages_2
      by_cases hd : d = 0
      · rw [if_pos (Or.inl hd), if_pos (show (4 : Int32) ≤ nI (s + 1) from (nI_leI (a := 4) (by omega) (by omega)).mpr (by omega))]
        exact one
      · rw [if_neg (show ¬ (4 : Int32) ≤ nI (s + 1) from fun z => by have := (nI_leI (a := 4) (by omega) (by omega)).mp z; omega), if_neg (show ¬ nI (s + 1) ≤ (0 : Int32) from fun z => by have := (nI_leI (b := 0) (by omega) (by omega)).mp z; omega), ck_t k5, kr_sign KJ, cI_x]
        by_cases h124 : sg l (rdS l p).2.1 = 124
        case neg =>
          rw [if_neg h124, if_pos (Or.inr h124)]
          exact one
        obtain ⟨d', rfl⟩ : ∃ d', d = d' + 1 := ⟨d - 1, by omega⟩
        have K2 := Kr_7 KJ (show ¬ sg l (rdS l p).2.1 = m1 by rw [h124]; decide)
        obtain ⟨I3, e3, f3, g3, K3, v3, w3⟩ := kr_32 d' (s + 1) ((rdS l p).2.1 + 1) n _ (by omega) (by omega) K2
        rw [if_pos h124, if_neg (fun z => z.elim hd (fun y => y h124)), gI_t k5, KJ.2.2.2.2.1, show nI (rdS l p).2.1 + (1 : Int32) = nI ((rdS l p).2.1 + 1) from nI_1 _, pI_t k5]
        refine ⟨I3, e3, fun a ha => by rw [f3 a ha, u2_ne (by omega), gJ a (by omega), f1.1 a ha], by rw [g3, u2_nj rfl (by omega)]; exact J6, K3, fun z => ?_, fun a j hj a1 a2 => by rw [w3 a j (by omega) a1 a2, u2_ne (by omega), gJ a (by omega), f1.2.2 a j (by omega) a1 a2]⟩
        obtain ⟨v31, v32⟩ := v3 z
        refine ⟨?_, fun j hj => ?_⟩
        · rw [v31]
          show nI (s + 1 + _) = nI (s + ((rdS l p).2.2 :: (rdL l (d' + 1) ((rdS l p).2.1 + 1)).2.2).length)
          rw [List.length_cons, show s + 1 + (rdL l (d' + 1) ((rdS l p).2.1 + 1)).2.2.length = s + ((rdL l (d' + 1) ((rdS l p).2.1 + 1)).2.2.length + 1) by omega]
        · have hj2 : j < ((rdS l p).2.2 :: (rdL l (d' + 1) ((rdS l p).2.1 + 1)).2.2).length := hj
          show Rw I3 (s + j) ((rdS l p).2.2 :: (rdL l (d' + 1) ((rdS l p).2.1 + 1)).2.2)[j]
          cases j with
          | zero =>
            unfold Rw at hRJ ⊢
            rw [Nat.add_zero, w3 6 s (by omega) (by omega) (by omega), w3 7 s (by omega) (by omega) (by omega), w3 8 s (by omega) (by omega) (by omega), w3 9 s (by omega) (by omega) (by omega), u2_ne (by omega), u2_ne (by omega), u2_ne (by omega), u2_ne (by omega)]
            exact hRJ
          | succ j =>
            rw [List.length_cons] at hj2
            have := v32 j (by omega)
            rw [show s + (j + 1) = s + 1 + j by omega]
            exact this
end
