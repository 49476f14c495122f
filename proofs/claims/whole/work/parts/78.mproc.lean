/-! THE REFERENCE: what a record leads to (processes) -/
def OutM (I : Iw) (l : List (Fin 16 × Int32)) : Prop := I 492 68 = nI l.length ∧ ∀ j (h : j < l.length), I 539 j = kv l[j].1 ∧ I 540 j = l[j].2
def cop3 (kind : Nat) (av : Int32) : Prop := kind = 3 → ∃ c, c ≤ 3 ∧ av = nI c
/-- what processes may change -/
def FP (p q u : Nat) (I I' : Iw) : Prop := (∀ a, a ≠ 492 → a ≠ 539 → a ≠ 540 → a ≠ p → a ≠ q → a ≠ u → I' a = I a) ∧ ∀ j, j ≠ 68 → I' 492 j = I 492 j
section
variable {T : Tl} {I I' : Iw} {o p q u kind : Nat} {f : Nat → Kst} {av bv : Int32}
theorem FP_scr (h : SCR I I') : FP p q u I I' := ⟨fun a h1 h2 h3 _ _ _ => h.1 a h1 h2 h3, h.2⟩
theorem FP_tr {I2 : Iw} (h1 : FP p q u I I') (h2 : FP p q u I' I2) : FP p q u I I2 := ⟨fun a g1 g2 g3 g4 g5 g6 => (h2.1 a g1 g2 g3 g4 g5 g6).trans (h1.1 a g1 g2 g3 g4 g5 g6), fun j hj => (h2.2 j hj).trans (h1.2 j hj)⟩
theorem FP_u2 {a x : Nat} {v : Int32} (h : a ≠ 492) (ha : a = p ∨ a = q ∨ a = u) : FP p q u I (u2 I a x v) := ⟨fun b g1 g2 g3 g4 g5 g6 => u2_ne (by omega), fun j _ => by rw [u2_ne (by omega)]⟩
theorem OutM_cg {l : List (Fin 16 × Int32)} (h : OutM I l) (g1 : I' 539 = I 539) (g2 : I' 540 = I 540) (g3 : I' 492 = I 492) : OutM I' l := by
  unfold OutM
  rw [g1, g2, g3]
  exact h
theorem KyM_wr (h : KyM I p q u f) (ho : o < 6) {k : Fin 16} {x : Option (Int32 × Int32)} (g : ∀ y, y ≠ 16 * o + k.val → I' p y = I p y ∧ I' q y = I q y ∧ I' u y = I u y) (h1 : I' p (16 * o + k.val) = nI (b01 x.isSome)) (h2 : ∀ e, x = some e → I' q (16 * o + k.val) = e.1 ∧ I' u (16 * o + k.val) = e.2) : KyM I' p q u (upw f o (fun k' => if k' = k then x else f o k')) := by
  intro o' k' ho'
  have hk := k.isLt
  have hk' := k'.isLt
  by_cases hz : o' = o ∧ k' = k
  · obtain ⟨rfl, rfl⟩ := hz
    rw [upw_eq]
    simp only [if_true]
    exact ⟨h1, h2⟩
  · have hne : 16 * o' + k'.val ≠ 16 * o + k.val := fun e => hz ⟨by omega, Fin.ext (by omega)⟩
    obtain ⟨g1, g2, g3⟩ := g _ hne
    rw [g1, g2, g3]
    by_cases ho2 : o' = o
    · rw [ho2, upw_eq]
      have hkk : ¬ k' = k := fun e => hz ⟨ho2, e⟩
      simp only [if_neg hkk]
      have := h o' k' ho'
      rw [ho2] at this
      exact this
    · rw [upw_ne ho2]
      exact h o' k' ho'
theorem KyM_st (h : KyM I p q u f) {k : Fin 16} (g : ∀ a, (a = p ∨ a = q ∨ a = u) → I' a = I a) : KyM I' p q u (upw f o (fun k' => if k' = k then f o k else f o k')) := by
  rw [Kst_id, upw_self]
  exact KyM_cg h (g p (by omega)) (g q (by omega)) (g u (by omega))
theorem m_gives (sh : shM T) {l : List (Fin 16 × Int32)} (h : OutM I l) (hl : l.length < 3) (k : Fin 16) (v : Int32) : ∃ I', f_m_gives 492 (kv k) v ((I, T) : Mem) = some ((I', T) : Mem) ∧ SCR I I' ∧ OutM I' (l ++ [(k, v)]) := by
  obtain ⟨h1, h2⟩ := h
  refine ⟨u2 (u2 (u2 I 539 l.length (kv k)) 540 l.length v) 492 68 (nI (l.length + 1)), ?_, ⟨fun a g1 g2 g3 => by rw [u2_ne g1, u2_ne g3, u2_ne g2], fun j hj => by rw [u2_nj rfl hj, u2_ne (by omega), u2_ne (by omega)]⟩, ?_, fun j hj => ?_⟩
  · unfold f_m_gives
    simp (disch := omega) only [↓sh.gI, ↓sh.pI, ↓sh.ck, ↓cI_x, ↓cV_x, ↓nmI_t, ↓reduceIte, rmI_t, dvI_t, nI_add, pk_mul, pk_sub, nI_leI, nI_ltI, nI_eq, n_leT, n_leF, n_ltT, n_ltF, n_eqT, n_eqF, u2_ne, u2_at, u2_nj, ↓i_neg1, m1_ne, m1_en, m1_lt, m1_le, m1_nlt, m1_nle, i_lits, true_and, and_true, ↓sh.g66, ↓sh.g67, sh.a539, sh.a540, sh.s539, sh.s540, h1]
  · rw [List.length_append, List.length_singleton]
    exact u2_at rfl rfl
  · rw [List.length_append, List.length_singleton] at hj
    by_cases hz : j < l.length
    · rw [List.getElem_append_left hz]
      simp (disch := omega) only [u2_ne, u2_nj]
      exact h2 j hz
    · have : j = l.length := by omega
      subst this
      rw [List.getElem_append_right (Nat.le_refl _)]
      simp only [Nat.sub_self, List.getElem_cons_zero]
      simp (disch := omega) only [u2_ne, u2_at]
      exact ⟨trivial, trivial⟩
theorem mcop_loop (sh : shM T) (ho : o < 6) (k : Fin 16) (v : Int32) (c : Nat) (hc : c ≤ 3) : ∀ (d n i : Nat) (I : Iw) (l : List (Fin 16 × Int32)), I 495 o = nI c → i + d = c → d < n → OutM I l → l.length = i → ∃ I', f_m_processes_178 n 492 (nI o) (kv k) v (nI i) ((I, T) : Mem) = some ((I', T) : Mem) ∧ SCR I I' ∧ OutM I' (l ++ (List.range d).map fun j => (k, v + nI (i + j)))
  | d, 0, i, I, l, _, _, hn, _, _ => by omega
  | 0, n + 1, i, I, l, e7, hd, hn, hw, hl => by
    refine ⟨I, ?_, SCR_rf, by simpa using hw⟩
    unfold f_m_processes_178
    simp (disch := omega) only [↓sh.gI, ↓sh.pI, ↓sh.ck, ↓cI_x, ↓cV_x, ↓nmI_t, ↓reduceIte, rmI_t, dvI_t, nI_add, pk_mul, pk_sub, nI_leI, nI_ltI, nI_eq, n_leT, n_leF, n_ltT, n_ltF, n_eqT, n_eqF, u2_ne, u2_at, u2_nj, ↓i_neg1, m1_ne, m1_en, m1_lt, m1_le, m1_nlt, m1_nle, i_lits, true_and, and_true, ↓sh.g4, sh.a495, sh.s495, e7]
  | d + 1, n + 1, i, I, l, e7, hd, hn, hw, hl => by
    obtain ⟨I1, e1, g1, r1⟩ := m_gives (T := T) sh hw (by omega) k (v + nI i)
    obtain ⟨I2, e2, g2, r2⟩ := mcop_loop sh ho k v c hc d n (i + 1) I1 (l ++ [(k, v + nI i)]) (by rw [g1.1 495 (by omega) (by omega) (by omega)]; exact e7) (by omega) (by omega) r1 (by simp; omega)
    refine ⟨I2, ?_, ⟨fun a h1 h2 h3 => (g2.1 a h1 h2 h3).trans (g1.1 a h1 h2 h3), fun j hj => (g2.2 j hj).trans (g1.2 j hj)⟩, ?_⟩
    · unfold f_m_processes_178
      simp (disch := omega) only [↓sh.gI, ↓sh.pI, ↓sh.ck, ↓cI_x, ↓cV_x, ↓nmI_t, ↓reduceIte, rmI_t, dvI_t, nI_add, pk_mul, pk_sub, nI_leI, nI_ltI, nI_eq, n_leT, n_leF, n_ltT, n_ltF, n_eqT, n_eqF, u2_ne, u2_at, u2_nj, ↓i_neg1, m1_ne, m1_en, m1_lt, m1_le, m1_nlt, m1_nle, i_lits, true_and, and_true, ↓sh.g4, sh.a495, sh.s495, e7, e1, e2]
    · have : l ++ (List.range (d + 1)).map (fun j => (k, v + nI (i + j))) = l ++ [(k, v + nI i)] ++ (List.range d).map (fun j => (k, v + nI (i + 1 + j))) := by
        rw [List.range_succ_eq_map, List.map_cons, List.map_map, List.append_assoc]
        simp only [Nat.add_zero, List.singleton_append]
        congr 2
        refine List.map_congr_left (fun j _ => ?_)
        simp only [Function.comp]
        rw [show i + (j + 1) = i + 1 + j by omega]
      rw [this]
      exact r2
theorem m_rest (x : Int32) (M : Mem) : f_m_rest x M = some (kv (rek x), M) := by
  have h := rek_of (rem16 x)
  have hr := rem16 x
  have hx : ∀ y : Int32, (0 : Int32) ≤ y ↔ 0 ≤ y.toInt := fun y => by rw [Int32.le_iff_toInt_le]; exact Iff.rfl
  unfold f_m_rest
  refine (if_neg (by decide)).trans ?_
  by_cases hz : (0 : Int32) ≤ x - x / 16 * 16
  · refine (if_pos hz).trans ?_
    rw [← h.1 ((hx _).mp hz)]
  · refine (if_neg hz).trans ?_
    have hn : (x - x / 16 * 16).toInt < 0 := Int.not_le.mp (fun w => hz ((hx _).mpr w))
    rw [← h.2 hn]
theorem m_processes (sh : shM T) (kp : tK T p = 102) (lp : tL T p = 96) (kq : tK T q = 100) (lq : tL T q = 96) (ku : tK T u = 100) (lu : tL T u = 96) (hd : p ≠ q ∧ p ≠ u ∧ q ≠ u) (bp : (503 < p ∧ p < 539) ∨ 540 < p) (bq : (503 < q ∧ q < 539) ∨ 540 < q) (bu : (503 < u ∧ u < 539) ∨ 540 < u) (ho : o < 6) (e4 : I 494 o = nI kind) (e5 : I 495 o = av) (e6 : I 496 o = bv) (hkd : kind ≤ 8) (h7 : kind ≠ 7) (h3 : cop3 kind av) (k : Fin 16) (v : Int32) (h6 : kind = 6 → ∀ x, f o k = some x → x.2 = 0) (hK : KyM I p q u f) : ∃ I', f_m_processes 492 (nI o) (kv k) v p q u ((I, T) : Mem) = some ((I', T) : Mem) ∧ FP p q u I I' ∧ OutM I' (proc kind av bv (f o k) k v).1 ∧ KyM I' p q u (upw f o (fun k' => if k' = k then (proc kind av bv (f o k) k v).2 else f o k')) := by
  have hk := k.isLt
  obtain ⟨I0, hI0⟩ : ∃ I0, I0 = u2 I 492 68 (nI 0) := ⟨_, rfl⟩
  have g0 : ∀ a, a ≠ 492 → I0 a = I a := fun a h => by rw [hI0, u2_ne h]
  have s0 : SCR I I0 := ⟨fun a h _ _ => g0 a h, fun j hj => by rw [hI0, u2_nj rfl hj]⟩
  have o0 : OutM I0 [] := ⟨by rw [hI0]; exact u2_at rfl rfl, fun j hj => by simp at hj⟩
  have hK0 : KyM I0 p q u f := KyM_cg hK (g0 p (by omega)) (g0 q (by omega)) (g0 u (by omega))
  obtain ⟨x, hx⟩ : ∃ x, x = 16 * o + k.val := ⟨_, rfl⟩
  have hx96 : x < 96 := by omega
  have ex : nI (16 * o) + kv k = nI x := by unfold kv; rw [nI_add, hx]
  obtain ⟨q1, q2⟩ := hK0 o k ho
  rw [← hx] at q1 q2
  obtain ⟨m, hm⟩ : ∃ m, m = b01 (f o k).isSome := ⟨_, rfl⟩
  rw [← hm] at q1
  have hm2 : m < 2 := by rw [hm]; unfold b01; split <;> omega
  have e4' : I0 494 o = nI kind := by rw [g0 494 (by omega)]; exact e4
  have e5' : I0 495 o = av := by rw [g0 495 (by omega)]; exact e5
  have e6' : I0 496 o = bv := by rw [g0 496 (by omega)]; exact e6
  have emit : ∀ (k2 : Fin 16) (v2 : Int32), ∃ I', f_m_gives 492 (kv k2) v2 ((I0, T) : Mem) = some ((I', T) : Mem) ∧ SCR I0 I' ∧ OutM I' [(k2, v2)] := fun k2 v2 => m_gives sh o0 (by simp) k2 v2
  have stay : ∀ I1 : Iw, SCR I0 I1 → KyM I1 p q u (upw f o (fun k' => if k' = k then f o k else f o k')) := fun I1 h => KyM_st hK0 (fun a ha => h.1 a (by omega) (by omega) (by omega))
  have tf : ∀ {I1 : Iw}, SCR I0 I1 → FP p q u I I1 := fun h => FP_tr (FP_scr s0) (FP_scr h)
  have put : ∀ (I1 : Iw) (l : List (Fin 16 × Int32)) (w1 w2 : Int32), SCR I0 I1 → OutM I1 l → FP p q u I (u2 (u2 (u2 I1 q x w1) u x w2) p x (nI 1)) ∧ OutM (u2 (u2 (u2 I1 q x w1) u x w2) p x (nI 1)) l ∧ KyM (u2 (u2 (u2 I1 q x w1) u x w2) p x (nI 1)) p q u (upw f o (fun k' => if k' = k then some (w1, w2) else f o k')) := fun I1 l w1 w2 c1 r1 => by
    refine ⟨FP_tr (tf c1) (FP_tr (FP_u2 (by omega) (by omega)) (FP_tr (FP_u2 (by omega) (by omega)) (FP_u2 (by omega) (by omega)))), OutM_cg r1 (by rw [u2_ne (by omega), u2_ne (by omega), u2_ne (by omega)]) (by rw [u2_ne (by omega), u2_ne (by omega), u2_ne (by omega)]) (by rw [u2_ne (by omega), u2_ne (by omega), u2_ne (by omega)]), KyM_wr hK0 ho (fun y hy => ?_) ?_ (fun e he => ?_)⟩
    · rw [← hx] at hy
      rw [← c1.1 p (by omega) (by omega) (by omega), ← c1.1 q (by omega) (by omega) (by omega), ← c1.1 u (by omega) (by omega) (by omega)]
      refine ⟨?_, ?_, ?_⟩ <;> simp (disch := omega) only [u2_ne, u2_nj]
    · rw [← hx]; exact u2_at rfl rfl
    · cases he
      rw [← hx]
      refine ⟨?_, ?_⟩
      · rw [u2_ne (by omega), u2_ne (by omega)]; exact u2_at rfl rfl
      · rw [u2_ne (by omega)]; exact u2_at rfl rfl
  have ex' : (16 : Int32) * nI o + kv k = nI x := by rw [← ex, show (16 : Int32) = nI 16 from rfl, pk_mul]
  unfold f_m_processes
  rw [sh.pI, show u2 I 492 68 (0 : Int32) = I0 from hI0.symm, ex', aB_t (Or.inr kp) (by rw [lp]; exact hx96) (by omega), q1, sh.g3, sh.a494 ho, e4']
  rcases (by omega : kind = 0 ∨ kind = 1 ∨ kind = 2 ∨ kind = 3 ∨ kind = 4 ∨ kind = 5 ∨ kind = 6 ∨ kind = 8) with rfl | rfl | rfl | rfl | rfl | rfl | rfl | rfl
  · obtain ⟨I1, e1, c1, r1⟩ := emit k (v * av + bv)
    refine ⟨I1, ?_, tf c1, r1, stay I1 c1⟩
    rw [if_pos (by decide)]
    simp (disch := omega) only [↓sh.gI, ↓sh.pI, ↓sh.ck, ↓cI_x, ↓cV_x, ↓nmI_t, ↓reduceIte, rmI_t, dvI_t, nI_add, pk_mul, pk_sub, nI_leI, nI_ltI, nI_eq, n_leT, n_leF, n_ltT, n_ltF, n_eqT, n_eqF, u2_ne, u2_at, u2_nj, ↓i_neg1, m1_ne, m1_en, m1_lt, m1_le, m1_nlt, m1_nle, i_lits, true_and, and_true, ↓sh.g3, ↓sh.g4, ↓sh.g5, sh.a494, sh.a495, sh.a496, sh.s494, sh.s495, sh.s496, e5', e6', e1]
  · -- filter
    rw [if_neg (by decide), if_pos (by decide)]
    by_cases hc : (if av = 0 then v < bv else if av = 1 then v = bv else bv < v)
    · obtain ⟨I1, e1, c1, r1⟩ := emit k v
      refine ⟨I1, ?_, tf c1, ?_, ?_⟩
      · by_cases h0 : av = 0
        · rw [if_pos h0] at hc
          have hn : ¬ bv ≤ v := Int32.not_le.mpr hc
          rw [h0, show (0 : Int32) = nI 0 from rfl] at e5'
          simp (disch := omega) only [↓sh.gI, ↓sh.pI, ↓sh.ck, ↓cI_x, ↓cV_x, ↓nmI_t, ↓reduceIte, rmI_t, dvI_t, nI_add, pk_mul, pk_sub, nI_leI, nI_ltI, nI_eq, n_leT, n_leF, n_ltT, n_ltF, n_eqT, n_eqF, u2_ne, u2_at, u2_nj, ↓i_neg1, m1_ne, m1_en, m1_lt, m1_le, m1_nlt, m1_nle, i_lits, true_and, and_true, ↓sh.g3, ↓sh.g4, ↓sh.g5, sh.a494, sh.a495, sh.a496, sh.s494, sh.s495, sh.s496, e5', e6', e1, hn, f_m_processes_144]
        · rw [if_neg h0] at hc
          have h0' : ¬ av = nI 0 := h0
          by_cases h1 : av = 1
          · rw [if_pos h1] at hc
            rw [h1, show (1 : Int32) = nI 1 from rfl] at e5'
            simp (disch := omega) only [↓sh.gI, ↓sh.pI, ↓sh.ck, ↓cI_x, ↓cV_x, ↓nmI_t, ↓reduceIte, rmI_t, dvI_t, nI_add, pk_mul, pk_sub, nI_leI, nI_ltI, nI_eq, n_leT, n_leF, n_ltT, n_ltF, n_eqT, n_eqF, u2_ne, u2_at, u2_nj, ↓i_neg1, m1_ne, m1_en, m1_lt, m1_le, m1_nlt, m1_nle, i_lits, true_and, and_true, ↓sh.g3, ↓sh.g4, ↓sh.g5, sh.a494, sh.a495, sh.a496, sh.s494, sh.s495, sh.s496, e5', e6', e1, hc, f_m_processes_144]
            rw [← hc, e1]
            rfl
          · rw [if_neg h1] at hc
            have h1' : ¬ av = nI 1 := h1
            have hn : ¬ v ≤ bv := Int32.not_le.mpr hc
            simp (disch := omega) only [↓sh.gI, ↓sh.pI, ↓sh.ck, ↓cI_x, ↓cV_x, ↓nmI_t, ↓reduceIte, rmI_t, dvI_t, nI_add, pk_mul, pk_sub, nI_leI, nI_ltI, nI_eq, n_leT, n_leF, n_ltT, n_ltF, n_eqT, n_eqF, u2_ne, u2_at, u2_nj, ↓i_neg1, m1_ne, m1_en, m1_lt, m1_le, m1_nlt, m1_nle, i_lits, true_and, and_true, ↓sh.g3, ↓sh.g4, ↓sh.g5, sh.a494, sh.a495, sh.a496, sh.s494, sh.s495, sh.s496, e5', e6', e1, h0', h1', hn, f_m_processes_144]
      · simp only [proc]
        rw [if_pos hc]; exact r1
      · exact stay I1 c1
    · refine ⟨I0, ?_, tf SCR_rf, ?_, ?_⟩
      · by_cases h0 : av = 0
        · rw [if_pos h0] at hc
          have hn : bv ≤ v := Int32.not_lt.mp hc
          rw [h0, show (0 : Int32) = nI 0 from rfl] at e5'
          simp (disch := omega) only [↓sh.gI, ↓sh.pI, ↓sh.ck, ↓cI_x, ↓cV_x, ↓nmI_t, ↓reduceIte, rmI_t, dvI_t, nI_add, pk_mul, pk_sub, nI_leI, nI_ltI, nI_eq, n_leT, n_leF, n_ltT, n_ltF, n_eqT, n_eqF, u2_ne, u2_at, u2_nj, ↓i_neg1, m1_ne, m1_en, m1_lt, m1_le, m1_nlt, m1_nle, i_lits, true_and, and_true, ↓sh.g3, ↓sh.g4, ↓sh.g5, sh.a494, sh.a495, sh.a496, sh.s494, sh.s495, sh.s496, e5', e6', hn, f_m_processes_144]
        · rw [if_neg h0] at hc
          have h0' : ¬ av = nI 0 := h0
          by_cases h1 : av = 1
          · rw [if_pos h1] at hc
            rw [h1, show (1 : Int32) = nI 1 from rfl] at e5'
            simp (disch := omega) only [↓sh.gI, ↓sh.pI, ↓sh.ck, ↓cI_x, ↓cV_x, ↓nmI_t, ↓reduceIte, rmI_t, dvI_t, nI_add, pk_mul, pk_sub, nI_leI, nI_ltI, nI_eq, n_leT, n_leF, n_ltT, n_ltF, n_eqT, n_eqF, u2_ne, u2_at, u2_nj, ↓i_neg1, m1_ne, m1_en, m1_lt, m1_le, m1_nlt, m1_nle, i_lits, true_and, and_true, ↓sh.g3, ↓sh.g4, ↓sh.g5, sh.a494, sh.a495, sh.a496, sh.s494, sh.s495, sh.s496, e5', e6', hc, f_m_processes_144]
          · rw [if_neg h1] at hc
            have h1' : ¬ av = nI 1 := h1
            have hn : v ≤ bv := Int32.not_lt.mp hc
            simp (disch := omega) only [↓sh.gI, ↓sh.pI, ↓sh.ck, ↓cI_x, ↓cV_x, ↓nmI_t, ↓reduceIte, rmI_t, dvI_t, nI_add, pk_mul, pk_sub, nI_leI, nI_ltI, nI_eq, n_leT, n_leF, n_ltT, n_ltF, n_eqT, n_eqF, u2_ne, u2_at, u2_nj, ↓i_neg1, m1_ne, m1_en, m1_lt, m1_le, m1_nlt, m1_nle, i_lits, true_and, and_true, ↓sh.g3, ↓sh.g4, ↓sh.g5, sh.a494, sh.a495, sh.a496, sh.s494, sh.s495, sh.s496, e5', e6', h0', h1', hn, f_m_processes_144]
      · simp only [proc]
        rw [if_neg hc]; exact o0
      · exact stay I0 SCR_rf
  · obtain ⟨I1, e1, c1, r1⟩ := emit (rek (kv k * av + bv)) v
    refine ⟨I1, ?_, tf c1, r1, stay I1 c1⟩
    rw [if_neg (by decide), if_neg (by decide), if_pos (by decide)]
    simp (disch := omega) only [↓sh.gI, ↓sh.pI, ↓sh.ck, ↓cI_x, ↓cV_x, ↓nmI_t, ↓reduceIte, rmI_t, dvI_t, nI_add, pk_mul, pk_sub, nI_leI, nI_ltI, nI_eq, n_leT, n_leF, n_ltT, n_ltF, n_eqT, n_eqF, u2_ne, u2_at, u2_nj, ↓i_neg1, m1_ne, m1_en, m1_lt, m1_le, m1_nlt, m1_nle, i_lits, true_and, and_true, ↓sh.g3, ↓sh.g4, ↓sh.g5, sh.a494, sh.a495, sh.a496, sh.s494, sh.s495, sh.s496, e5', e6', m_rest, e1]
  · obtain ⟨c, hc, hav⟩ := h3 rfl
    obtain ⟨I1, e1, c1, r1⟩ := mcop_loop (T := T) sh ho k v c hc c FU 0 I0 [] (by rw [e5', hav]) (by omega) (by unfold FU; omega) o0 rfl
    refine ⟨I1, ?_, tf c1, ?_, stay I1 c1⟩
    · rw [if_neg (by decide), if_neg (by decide), if_neg (by decide), if_pos (by decide)]
      rw [show (0 : Int32) = nI 0 from rfl]
      exact e1
    · simp only [proc]
      rw [hav, nI_clamp (by omega)]
      simp only [List.nil_append, Nat.zero_add] at r1
      exact r1
  · -- sums
    rw [if_neg (by decide), if_neg (by decide), if_neg (by decide), if_neg (by decide), if_pos (by decide)]
    have hsum : ∀ w1 w2 : Int32, (proc 4 av bv (f o k) k v = if w2 = av then ([(k, w1)], none) else ([], some (w1, w2))) → ∃ I', f_m_processes_316 492 (nI o) (kv k) p q u (nI x) w2 (nI x) u ((u2 I0 q x w1, T) : Mem) = some ((I', T) : Mem) ∧ FP p q u I I' ∧ OutM I' (proc 4 av bv (f o k) k v).1 ∧ KyM I' p q u (upw f o (fun k' => if k' = k then (proc 4 av bv (f o k) k v).2 else f o k')) := fun w1 w2 hp => by
      obtain ⟨I1, hI1⟩ : ∃ I1, I1 = u2 (u2 I0 q x w1) u x w2 := ⟨_, rfl⟩
      have r0 : ∀ a, a ≠ q → a ≠ u → I1 a = I0 a := fun a h1 h2 => by rw [hI1, u2_ne h2, u2_ne h1]
      have f1 : FP p q u I I1 := FP_tr (FP_scr s0) (by rw [hI1]; exact FP_tr (FP_u2 (by omega) (by omega)) (FP_u2 (by omega) (by omega)))
      have o1 : OutM I1 [] := OutM_cg o0 (r0 539 (by omega) (by omega)) (r0 540 (by omega) (by omega)) (r0 492 (by omega) (by omega))
      have v1 : I1 q x = w1 := by rw [hI1, u2_ne (by omega)]; exact u2_at rfl rfl
      have v2 : I1 u x = w2 := by rw [hI1]; exact u2_at rfl rfl
      have e4'' : I1 494 o = nI 4 := by rw [r0 494 (by omega) (by omega)]; exact e4'
      have e5'' : I1 495 o = av := by rw [r0 495 (by omega) (by omega)]; exact e5'
      have r1 : ∀ y, y ≠ x → I1 p y = I0 p y ∧ I1 q y = I0 q y ∧ I1 u y = I0 u y := fun y hy => by
        rw [r0 p (by omega) (by omega), hI1]
        refine ⟨rfl, ?_, ?_⟩ <;> simp (disch := omega) only [u2_ne, u2_nj]
      rw [hp]
      by_cases hc : w2 = av
      · rw [if_pos hc]
        obtain ⟨I2, e2, c2, o2⟩ := m_gives (T := T) sh o1 (by simp) k w1
        have r2 : ∀ a, (a = p ∨ a = q ∨ a = u) → I2 a = I1 a := fun a h => c2.1 a (by omega) (by omega) (by omega)
        refine ⟨u2 I2 p x (nI 0), ?_, FP_tr f1 (FP_tr (FP_scr c2) (FP_u2 (by omega) (by omega))), OutM_cg o2 (u2_ne (by omega)) (u2_ne (by omega)) (u2_ne (by omega)), KyM_wr hK0 ho (fun y hy => ?_) ?_ (fun e he => by cases he)⟩
        · unfold f_m_processes_316
          rw [sI_t ku (by omega) (by omega), ← hI1]
          simp (disch := omega) only [↓sh.gI, ↓sh.pI, ↓sh.ck, ↓cI_x, ↓cV_x, ↓nmI_t, ↓reduceIte, rmI_t, dvI_t, nI_add, pk_mul, pk_sub, nI_leI, nI_ltI, nI_eq, n_leT, n_leF, n_ltT, n_ltF, n_eqT, n_eqF, u2_ne, u2_at, u2_nj, ↓i_neg1, m1_ne, m1_en, m1_lt, m1_le, m1_nlt, m1_nle, i_lits, true_and, and_true, ↓sh.g3, ↓sh.g4, sh.a494, sh.a495, sh.s494, sh.s495, aI_t, sB_t, e4'', v2, e5'', hc, v1, e2]
        · rw [← hx] at hy
          obtain ⟨g1, g2, g3⟩ := r1 y hy
          rw [u2_nj rfl hy, u2_ne (by omega), u2_ne (by omega), r2 p (by omega), r2 q (by omega), r2 u (by omega)]
          exact ⟨g1, g2, g3⟩
        · rw [← hx]; exact u2_at rfl rfl
      · rw [if_neg hc]
        refine ⟨u2 I1 p x (nI 1), ?_, FP_tr f1 (FP_u2 (by omega) (by omega)), OutM_cg o1 (u2_ne (by omega)) (u2_ne (by omega)) (u2_ne (by omega)), KyM_wr hK0 ho (fun y hy => ?_) ?_ (fun e he => ?_)⟩
        · unfold f_m_processes_316
          rw [sI_t ku (by omega) (by omega), ← hI1]
          simp (disch := omega) only [↓sh.gI, ↓sh.pI, ↓sh.ck, ↓cI_x, ↓cV_x, ↓nmI_t, ↓reduceIte, rmI_t, dvI_t, nI_add, pk_mul, pk_sub, nI_leI, nI_ltI, nI_eq, n_leT, n_leF, n_ltT, n_ltF, n_eqT, n_eqF, u2_ne, u2_at, u2_nj, ↓i_neg1, m1_ne, m1_en, m1_lt, m1_le, m1_nlt, m1_nle, i_lits, true_and, and_true, ↓sh.g3, ↓sh.g4, sh.a494, sh.a495, sh.s494, sh.s495, aI_t, sB_t, e4'', v2, e5'', hc, f_m_processes_358]
        · rw [← hx] at hy
          obtain ⟨g1, g2, g3⟩ := r1 y hy
          rw [u2_nj rfl hy, u2_ne (by omega), u2_ne (by omega)]
          exact ⟨g1, g2, g3⟩
        · rw [← hx]; exact u2_at rfl rfl
        · cases he
          rw [← hx, u2_ne (by omega), u2_ne (by omega)]
          exact ⟨v1, v2⟩
    cases hz : f o k with
    | none =>
      rw [hz] at hm hsum
      have hm0 : m = 0 := by rw [hm]; rfl
      have hp : proc 4 av bv none k v = if (nI 1) = av then ([(k, v)], none) else ([], some (v, nI 1)) := by
        show (if (0 : Int32) + 1 = av then ([(k, (0 : Int32) + v)], none) else ([], some ((0 : Int32) + v, (0 : Int32) + 1))) = _
        rw [Int32.zero_add, Int32.zero_add]
        rfl
      obtain ⟨I', e1, c1⟩ := hsum v (nI 1) hp
      refine ⟨I', ?_, c1⟩
      rw [hm0, if_pos (show nI 0 = (0 : Int32) from rfl)]
      unfold f_m_processes_295
      rw [sI_t kq (by omega) (by omega), if_pos (show nI 0 = (0 : Int32) from rfl)]
      exact e1
    | some y =>
      rw [hz] at hm hsum
      have hm1 : m = 1 := by rw [hm]; rfl
      obtain ⟨z1, z2⟩ := q2 y hz
      have hp : proc 4 av bv (some y) k v = if (y.2 + nI 1) = av then ([(k, y.1 + v)], none) else ([], some (y.1 + v, y.2 + nI 1)) := rfl
      obtain ⟨I', e1, c1⟩ := hsum (y.1 + v) (y.2 + nI 1) hp
      refine ⟨I', ?_, c1⟩
      rw [hm1, if_neg (by decide), aI_t kq (by omega) (by omega), z1]
      unfold f_m_processes_295
      rw [sI_t kq (by omega) (by omega), if_neg (by decide), aI_t ku (by omega) (by omega), u2_ne (by omega), z2]
      exact e1
  · -- changes
    rw [if_neg (by decide), if_neg (by decide), if_neg (by decide), if_neg (by decide), if_neg (by decide), if_pos (by decide)]
    have h225 : ∀ (I1 : Iw), f_m_processes_225 v p q u (nI x) ((I1, T) : Mem) = some ((u2 (u2 (u2 I1 q x v) u x (nI 0)) p x (nI 1), T) : Mem) := fun I1 => by
      unfold f_m_processes_225 f_m_processes_358
      rw [sI_t kq (by omega) (by omega), sI_t ku (by omega) (by omega), show (1 : Int32) = nI 1 from rfl, sB_t kp (by omega) (by omega) (by omega)]
      rfl
    have h219 : ∃ I1, SCR I0 I1 ∧ OutM I1 [(k, v)] ∧ f_m_processes_219 492 (kv k) v p q u (nI x) ((I0, T) : Mem) = some ((u2 (u2 (u2 I1 q x v) u x (nI 0)) p x (nI 1), T) : Mem) := by
      obtain ⟨I1, e1, c1, r1⟩ := emit k v
      refine ⟨I1, c1, r1, ?_⟩
      unfold f_m_processes_219
      rw [sh.ck, e1, cV_x]
      exact h225 I1
    by_cases hc : (f o k).map (fun x => x.1) = some v
    · have hp : proc 5 av bv (f o k) k v = ([], some (v, 0)) := by
        show (if (f o k).map (fun x => x.1) = some v then _ else _, _) = _
        rw [if_pos hc]
      obtain ⟨y, hy⟩ : ∃ y, f o k = some y := by
        cases hz : f o k with
        | none => rw [hz] at hc; cases hc
        | some y => exact ⟨y, rfl⟩
      have hm1 : m = 1 := by rw [hm, hy]; rfl
      obtain ⟨z1, z2⟩ := q2 y hy
      have hv : y.1 = v := by rw [hy] at hc; exact Option.some.inj hc
      obtain ⟨p1, p2, p3⟩ := put I0 [] v (nI 0) SCR_rf o0
      rw [hp]
      refine ⟨_, ?_, p1, p2, p3⟩
      rw [hm1, if_neg (by decide), aI_t kq (by omega) (by omega), z1, if_pos hv]
      exact h225 I0
    · have hp : proc 5 av bv (f o k) k v = ([(k, v)], some (v, 0)) := by
        show (if (f o k).map (fun x => x.1) = some v then _ else _, _) = _
        rw [if_neg hc]
      obtain ⟨I1, c1, r1, e1⟩ := h219
      obtain ⟨p1, p2, p3⟩ := put I1 [(k, v)] v (nI 0) c1 r1
      rw [hp]
      refine ⟨_, ?_, p1, p2, p3⟩
      cases hz : f o k with
      | none =>
        have hm0 : m = 0 := by rw [hm, hz]; rfl
        rw [hm0, if_pos (show nI 0 = (0 : Int32) from rfl)]
        exact e1
      | some y =>
        have hm1 : m = 1 := by rw [hm, hz]; rfl
        obtain ⟨z1, z2⟩ := q2 y hz
        have hv : ¬ y.1 = v := fun w => hc (by rw [hz]; exact congrArg some w)
        rw [hm1, if_neg (by decide), aI_t kq (by omega) (by omega), z1, if_neg hv]
        exact e1
  · -- records
    rw [if_neg (by decide), if_neg (by decide), if_neg (by decide), if_neg (by decide), if_neg (by decide), if_neg (by decide), if_pos (by decide)]
    have h254 : ∃ I1, SCR I0 I1 ∧ OutM I1 [(k, v)] ∧ f_m_processes_254 492 (kv k) v p q u (nI x) ((I0, T) : Mem) = some ((u2 (u2 (u2 I1 q x v) u x (nI 0)) p x (nI 1), T) : Mem) := by
      obtain ⟨I1, e1, c1, r1⟩ := emit k v
      refine ⟨I1, c1, r1, ?_⟩
      unfold f_m_processes_254 f_m_processes_266 f_m_processes_358
      rw [sh.ck, e1, cV_x, sI_t kq (by omega) (by omega), sI_t ku (by omega) (by omega), show (1 : Int32) = nI 1 from rfl, sB_t kp (by omega) (by omega) (by omega)]
      rfl
    obtain ⟨I1, c1, r1, e1⟩ := h254
    obtain ⟨p1, p2, p3⟩ := put I1 [(k, v)] v (nI 0) c1 r1
    cases hz : f o k with
    | none =>
      have hm0 : m = 0 := by rw [hm, hz]; rfl
      refine ⟨_, ?_, p1, p2, p3⟩
      rw [hm0, if_pos (show nI 0 = (0 : Int32) from rfl)]
      exact e1
    | some y =>
      have hm1 : m = 1 := by rw [hm, hz]; rfl
      obtain ⟨z1, z2⟩ := q2 y hz
      rw [hm1] at q1
      by_cases hc : y.1 < v
      · have hp : proc 6 av bv (some y) k v = ([(k, v)], some (v, 0)) := if_pos hc
        have hn : ¬ v ≤ y.1 := Int32.not_le.mpr hc
        rw [hp]
        refine ⟨_, ?_, p1, p2, p3⟩
        rw [hm1, if_neg (by decide), aI_t kq (by omega) (by omega), z1, if_neg hn]
        exact e1
      · have hp : proc 6 av bv (some y) k v = ([], some y) := if_neg hc
        have hn : v ≤ y.1 := Int32.not_lt.mp hc
        have hy0 := h6 rfl y hz
        rw [hp]
        refine ⟨u2 (u2 I0 u x (nI 0)) p x (nI 1), ?_, FP_tr (FP_scr s0) (FP_tr (FP_u2 (by omega) (by omega)) (FP_u2 (by omega) (by omega))), OutM_cg o0 (by rw [u2_ne (by omega), u2_ne (by omega)]) (by rw [u2_ne (by omega), u2_ne (by omega)]) (by rw [u2_ne (by omega), u2_ne (by omega)]), KyM_wr hK0 ho (fun z hzz => ?_) ?_ (fun e he => ?_)⟩
        · rw [hm1, if_neg (by decide), aI_t kq (by omega) (by omega), z1, if_pos hn]
          unfold f_m_processes_266 f_m_processes_358
          rw [sI_t ku (by omega) (by omega), show (1 : Int32) = nI 1 from rfl, sB_t kp (by omega) (by omega) (by omega)]
          rfl
        · rw [← hx] at hzz
          refine ⟨?_, ?_, ?_⟩ <;> simp (disch := omega) only [u2_ne, u2_nj]
        · rw [← hx]; exact u2_at rfl rfl
        · cases he
          rw [← hx]
          refine ⟨?_, ?_⟩
          · rw [u2_ne (by omega), u2_ne (by omega)]; exact z1
          · rw [u2_ne (by omega), u2_at rfl rfl, hy0]; rfl
  · -- counts
    rw [if_neg (by decide), if_neg (by decide), if_neg (by decide), if_neg (by decide), if_neg (by decide), if_neg (by decide), if_neg (by decide)]
    have h316 : ∀ (w1 w2 : Int32), f_m_processes_316 492 (nI o) (kv k) p q u (nI x) w2 (nI x) u ((u2 I0 q x w1, T) : Mem) = some ((u2 (u2 (u2 I0 q x w1) u x w2) p x (nI 1), T) : Mem) := fun w1 w2 => by
      unfold f_m_processes_316 f_m_processes_358
      rw [sI_t ku (by omega) (by omega), sh.g3, sh.a494 ho, u2_ne (by omega), u2_ne (by omega), e4', if_neg (by decide), show (1 : Int32) = nI 1 from rfl, sB_t kp (by omega) (by omega) (by omega)]
    cases hz : f o k with
    | none =>
      have hm0 : m = 0 := by rw [hm, hz]; rfl
      have hp : proc 8 av bv none k v = ([], some (v, nI 1)) := by
        show ([], some ((0 : Int32) + v, (0 : Int32) + 1)) = _
        rw [Int32.zero_add, Int32.zero_add]
        rfl
      obtain ⟨p1, p2, p3⟩ := put I0 [] v (nI 1) SCR_rf o0
      rw [hp]
      refine ⟨_, ?_, p1, p2, p3⟩
      rw [hm0, if_pos (show nI 0 = (0 : Int32) from rfl)]
      unfold f_m_processes_295
      rw [sI_t kq (by omega) (by omega), if_pos (show nI 0 = (0 : Int32) from rfl)]
      exact h316 v (nI 1)
    | some y =>
      have hm1 : m = 1 := by rw [hm, hz]; rfl
      obtain ⟨z1, z2⟩ := q2 y hz
      have hp : proc 8 av bv (some y) k v = ([], some (y.1 + v, y.2 + nI 1)) := rfl
      obtain ⟨p1, p2, p3⟩ := put I0 [] (y.1 + v) (y.2 + nI 1) SCR_rf o0
      rw [hp]
      refine ⟨_, ?_, p1, p2, p3⟩
      rw [hm1, if_neg (by decide), aI_t kq (by omega) (by omega), z1]
      unfold f_m_processes_295
      rw [sI_t kq (by omega) (by omega), if_neg (by decide), aI_t ku (by omega) (by omega), u2_ne (by omega), z2]
      exact h316 (y.1 + v) (y.2 + nI 1)
end
