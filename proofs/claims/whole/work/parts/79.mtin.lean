/-! THE REFERENCE: a record put out, a record taken in -/
theorem shM.k504 {T : Tl} (sh : shM T) : tK T 504 = 102 := (sh.2.2.2.2.2.2.2.2.2.2.2.2.1).2.1
theorem shM.l504 {T : Tl} (sh : shM T) : tL T 504 = 96 := (sh.2.2.2.2.2.2.2.2.2.2.2.2.1).2.2
theorem shM.k507 {T : Tl} (sh : shM T) : tK T 507 = 100 := (sh.2.2.2.2.2.2.2.2.2.2.2.2.2.2.2.1).2.1
theorem shM.l507 {T : Tl} (sh : shM T) : tL T 507 = 96 := (sh.2.2.2.2.2.2.2.2.2.2.2.2.2.2.2.1).2.2
theorem shM.k510 {T : Tl} (sh : shM T) : tK T 510 = 100 := (sh.2.2.2.2.2.2.2.2.2.2.2.2.2.2.2.2.2.2.1).2.1
theorem shM.l510 {T : Tl} (sh : shM T) : tL T 510 = 96 := (sh.2.2.2.2.2.2.2.2.2.2.2.2.2.2.2.2.2.2.1).2.2
theorem shM.k541 {T : Tl} (sh : shM T) : tK T 541 = 102 := (sh.2.2.2.2.2.2.2.2.2.2.2.2.2.2.2.2.2.2.2.2.2.2.2.2.2.2.2.2.2.2.2.2.2.2.2.2.2.2.2.2.2.2.2.2.2.2.2.2.2.1).2.1
theorem shM.l541 {T : Tl} (sh : shM T) : tL T 541 = 96 := (sh.2.2.2.2.2.2.2.2.2.2.2.2.2.2.2.2.2.2.2.2.2.2.2.2.2.2.2.2.2.2.2.2.2.2.2.2.2.2.2.2.2.2.2.2.2.2.2.2.2.1).2.2
theorem shM.k542 {T : Tl} (sh : shM T) : tK T 542 = 100 := (sh.2.2.2.2.2.2.2.2.2.2.2.2.2.2.2.2.2.2.2.2.2.2.2.2.2.2.2.2.2.2.2.2.2.2.2.2.2.2.2.2.2.2.2.2.2.2.2.2.2.2.1).2.1
theorem shM.l542 {T : Tl} (sh : shM T) : tL T 542 = 96 := (sh.2.2.2.2.2.2.2.2.2.2.2.2.2.2.2.2.2.2.2.2.2.2.2.2.2.2.2.2.2.2.2.2.2.2.2.2.2.2.2.2.2.2.2.2.2.2.2.2.2.2.1).2.2
theorem shM.k543 {T : Tl} (sh : shM T) : tK T 543 = 100 := (sh.2.2.2.2.2.2.2.2.2.2.2.2.2.2.2.2.2.2.2.2.2.2.2.2.2.2.2.2.2.2.2.2.2.2.2.2.2.2.2.2.2.2.2.2.2.2.2.2.2.2.2.1).2.1
theorem shM.l543 {T : Tl} (sh : shM T) : tL T 543 = 96 := (sh.2.2.2.2.2.2.2.2.2.2.2.2.2.2.2.2.2.2.2.2.2.2.2.2.2.2.2.2.2.2.2.2.2.2.2.2.2.2.2.2.2.2.2.2.2.2.2.2.2.2.2.1).2.2
/-- a later shape: only the sum of the latencies may differ -/
def JM (T T' : Tl) : Prop := T'.2 = T.2 ∧ ∀ a j, ¬ (a = 492 ∧ j = 59) → tJ T' a j = tJ T a j
theorem JM_rf {T : Tl} : JM T T := ⟨rfl, fun _ _ _ => rfl⟩
theorem JM_tr {T T1 T2 : Tl} (h1 : JM T T1) (h2 : JM T1 T2) : JM T T2 := ⟨h2.1.trans h1.1, fun a j h => (h2.2 a j h).trans (h1.2 a j h)⟩
theorem JM_se {T : Tl} {w : Int64} : JM T (seJ T 492 59 w) := ⟨rfl, fun a j h => by
  show u2 (tJ T) 492 59 w a j = tJ T a j
  unfold u2
  exact if_neg h⟩
theorem JM.sh {T T' : Tl} (h : JM T T') (sh : shM T) : shM T' := by
  obtain ⟨J, R⟩ := T
  obtain ⟨J', R'⟩ := T'
  have e : R' = R := h.1
  subst e
  exact sh
theorem j_add (a : Int64) (x : Int32) : (a + x.toInt64).toInt32 = a.toInt32 + x := by
  rw [Int64.toInt32_add, Int32.toInt32_toInt64]
section
variable {T : Tl} {I I' : Iw} {E : Env} {D : Dy} {Q : Slow} {o i j s c r tk : Nat}
theorem MR_FP {f' : Kst} (h : MR E D Q r tk I T) (g : FP 504 507 510 I I') (hn : KyM I' 504 507 510 (upw (dK D) o f')) : MR E (zsK D (upw (dK D) o f')) Q r tk I' T ∧ FM I I' := by
  obtain ⟨h1, h2, h3, h4, h5, h6, h7, h8, h9⟩ := h
  have f : FM I I' := ⟨fun a h _ => g.1 a h (by omega) (by omega) (by omega) (by omega) (by omega), fun j _ => g.2 j (by omega)⟩
  have g1 : ∀ a, (a = 513 ∨ a = 505 ∨ a = 506 ∨ a = 508 ∨ a = 509 ∨ (510 < a ∧ a < 539) ∨ (499 < a ∧ a < 504)) → I' a = I a := fun a ha => g.1 a (by omega) (by omega) (by omega) (by omega) (by omega) (by omega)
  exact ⟨⟨CoM_cg h1 f, ChsM_cg h2 (fun a _ _ => g1 a (by omega)), InsM_cg h3 (fun a _ => g1 a (by omega)), hn, StM_cg h5 (fun a _ _ => g1 a (by omega)), ScM_cg h6 (fun j _ => g.2 j (by omega)), LaM_cg h7 (g1 _ (by omega)) (g.2 _ (by omega)), RuM_cg h8 (fun a _ => g1 a (by omega)), VsM_cg h9 (fun a _ => g1 a (by omega)) (fun j _ => g.2 j (by omega))⟩, f⟩
theorem m_emits (sh : shM T) (hE : okE E) (hC : MR E D Q r tk I T) (hs : vS E o i) (hl : (dL D (spt o i)).length < 3) (h3 : ∀ x, x < 18 → (dL D x).length ≤ 3) (k : Fin 16) (v : Int32) (b : Nat) : ∃ I', f_m_emits 492 (nI o) (nI i) (kv k) v (nI b) ((I, T) : Mem) = some ((I', T) : Mem) ∧ MR E (zsY (zsL D (upw (dL D) (spt o i) (dL D (spt o i) ++ [(k, v, b)]))) (upw (dY D) o (dY D o + nI 1))) Q r tk I' T ∧ FM I I' ∧ I' 539 = I 539 ∧ I' 540 = I 540 ∧ I' 492 = I 492 := by
  have n4 := hE.1
  have ho := hs.1
  have s18 := spt18 hE hs
  have e0 := fun M => m_spot o i M
  obtain ⟨s, hs'⟩ : ∃ s, s = spt o i := ⟨_, rfl⟩
  rw [← hs'] at s18 hl e0 ⊢
  have hL := (hC.2.2.1 s s18).1
  obtain ⟨l, hl'⟩ : ∃ l, l = dL D s := ⟨_, rfl⟩
  rw [← hl'] at hL hl ⊢
  obtain ⟨I1, hI1⟩ : ∃ I1, I1 = u2 (u2 (u2 (u2 I 517 (3 * s + l.length) (kv k)) 518 (3 * s + l.length) v) 519 (3 * s + l.length) (nI b)) 516 s (nI (l.length + 1)) := ⟨_, rfl⟩
  obtain ⟨C1, F1⟩ := MR_L (I' := I1) (s := s) (l := l ++ [(k, v, b)]) hC (fun a ha => by rw [hI1]; simp (disch := omega) only [u2_ne]) (fun x hx => by rw [hI1]; simp (disch := omega) only [u2_ne, u2_nj]) (fun x hx => by
    rw [hI1]
    refine ⟨?_, ?_, ?_⟩ <;> simp (disch := omega) only [u2_ne, u2_nj]) h3 ⟨by rw [hI1, List.length_append, List.length_singleton]; exact u2_at rfl rfl, fun j hj => by
    rw [List.length_append, List.length_singleton] at hj
    rw [hI1]
    by_cases hz : j < l.length
    · rw [List.getElem_append_left hz]
      simp (disch := omega) only [u2_ne, u2_nj]
      exact hL.2 j hz
    · have : j = l.length := by omega
      subst this
      rw [List.getElem_append_right (Nat.le_refl _)]
      simp only [Nat.sub_self, List.getElem_cons_zero]
      simp (disch := omega) only [u2_ne, u2_at]
      exact ⟨trivial, trivial, trivial⟩⟩
  have hy := (hC.2.2.2.2.1 o (by omega)).2.1
  obtain ⟨C2, F2⟩ := MR_Y (o := o) (v := dY D o + nI 1) C1
  refine ⟨u2 I1 501 o (dY D o + nI 1), ?_, C2, FM_tr F1 F2, ?_, ?_, ?_⟩
  · unfold f_m_emits
    have h1 := hL.1
    simp (disch := omega) only [↓sh.gI, ↓sh.pI, ↓sh.ck, ↓cI_x, ↓cV_x, ↓nmI_t, ↓reduceIte, rmI_t, dvI_t, nI_add, pk_mul, pk_sub, nI_leI, nI_ltI, nI_eq, n_leT, n_leF, n_ltT, n_ltF, n_eqT, n_eqF, u2_ne, u2_at, u2_nj, ↓i_neg1, m1_ne, m1_en, m1_lt, m1_le, m1_nlt, m1_nle, i_lits, true_and, and_true, ↓sh.g21, ↓sh.g39, ↓sh.g40, ↓sh.g41, ↓sh.g42, sh.a501, sh.a516, sh.a517, sh.a518, sh.a519, sh.s501, sh.s516, sh.s517, sh.s518, sh.s519, e0, h1, ← hI1, hy]
  · rw [u2_ne (by omega), hI1]; simp (disch := omega) only [u2_ne]
  · rw [u2_ne (by omega), hI1]; simp (disch := omega) only [u2_ne]
  · rw [u2_ne (by omega), hI1]; simp (disch := omega) only [u2_ne]
theorem nI_plus (x : Int32) (n : Nat) : x + nI n + nI 1 = x + nI (n + 1) := by rw [Int32.add_assoc, nI_add]
theorem m_outs (sh : shM T) (hE : okE E) (hs : vS E o i) (b : Nat) (l : List (Fin 16 × Int32)) (h3 : l.length ≤ 3) : ∀ (d n j : Nat) (D : Dy) (I : Iw), j + d = l.length → d < n → MR E D Q r tk I T → OutM I l → dL D (spt o i) = (l.take j).map (fun x => (x.1, x.2, b)) → (∀ x, x < 18 → (dL D x).length ≤ 3) → ∃ I' n', f_m_takesIn_33 n 492 (nI o) (nI i) (nI b) (nI j) ((I, T) : Mem) = f_m_takesIn_33 (n' + 1) 492 (nI o) (nI i) (nI b) (nI l.length) ((I', T) : Mem) ∧ MR E (zsY (zsL D (upw (dL D) (spt o i) (l.map (fun x => (x.1, x.2, b))))) (upw (dY D) o (dY D o + nI d))) Q r tk I' T ∧ FM I I' ∧ OutM I' l
  | d, 0, j, D, I, _, hn, _, _, _, _ => by omega
  | 0, n + 1, j, D, I, hj, hn, hC, hO, hl, hx => by
    have hj' : j = l.length := by omega
    refine ⟨I, n, by rw [hj'], ?_, FM_rf, hO⟩
    have e1 : upw (dL D) (spt o i) (l.map (fun x => (x.1, x.2, b))) = dL D := by
      rw [hj', List.take_length] at hl
      rw [← hl, upw_self]
    have e2 : upw (dY D) o (dY D o + nI 0) = dY D := by
      rw [show dY D o + nI 0 = dY D o from Int32.add_zero _, upw_self]
    rw [e1, e2]
    exact hC
  | d + 1, n + 1, j, D, I, hj, hn, hC, hO, hl, hx => by
    have s18 := spt18 hE hs
    have hjl : j < l.length := by omega
    have hlen : (dL D (spt o i)).length = j := by rw [hl]; simp; omega
    obtain ⟨a1, a2⟩ := hO.2 j hjl
    have a0 := hO.1
    obtain ⟨I1, e1, C1, F1, g1, g2, g3⟩ := m_emits (T := T) sh hE hC hs (by omega) hx l[j].1 l[j].2 b
    have hO1 := OutM_cg hO g1 g2 g3
    have hL1 : dL (zsY (zsL D (upw (dL D) (spt o i) (dL D (spt o i) ++ [(l[j].1, l[j].2, b)]))) (upw (dY D) o (dY D o + nI 1))) (spt o i) = (l.take (j + 1)).map (fun x => (x.1, x.2, b)) := by
      simp only [gs_Y, gs_L]
      rw [upw_eq, hl, List.take_succ_eq_append_getElem hjl, List.map_append]
      rfl
    obtain ⟨I2, n', e2, C2, F2, O2⟩ := m_outs sh hE hs b l h3 d n (j + 1) _ I1 (by omega) (by omega) C1 hO1 hL1 (fun x hx18 => by
      simp only [gs_Y, gs_L]
      by_cases hz : x = spt o i
      · rw [hz, upw_eq, List.length_append, hlen]; simp; omega
      · rw [upw_ne hz]; exact hx x hx18)
    refine ⟨I2, n', ?_, ?_, FM_tr F1 F2, O2⟩
    · rw [← e2]
      conv => lhs; unfold f_m_takesIn_33
      simp (disch := omega) only [↓sh.gI, ↓sh.pI, ↓sh.ck, ↓cI_x, ↓cV_x, ↓nmI_t, ↓reduceIte, rmI_t, dvI_t, nI_add, pk_mul, pk_sub, nI_leI, nI_ltI, nI_eq, n_leT, n_leF, n_ltT, n_ltF, n_eqT, n_eqF, u2_ne, u2_at, u2_nj, ↓i_neg1, m1_ne, m1_en, m1_lt, m1_le, m1_nlt, m1_nle, i_lits, true_and, and_true, ↓sh.g57, ↓sh.g66, ↓sh.g67, sh.a534, sh.a539, sh.a540, sh.s534, sh.s539, sh.s540, a0, a1, a2, e1]
    · have heq : zsY (zsL (zsY (zsL D (upw (dL D) (spt o i) (dL D (spt o i) ++ [(l[j].1, l[j].2, b)]))) (upw (dY D) o (dY D o + nI 1))) (upw (dL (zsY (zsL D (upw (dL D) (spt o i) (dL D (spt o i) ++ [(l[j].1, l[j].2, b)]))) (upw (dY D) o (dY D o + nI 1)))) (spt o i) (l.map (fun x => (x.1, x.2, b))))) (upw (dY (zsY (zsL D (upw (dL D) (spt o i) (dL D (spt o i) ++ [(l[j].1, l[j].2, b)]))) (upw (dY D) o (dY D o + nI 1)))) o (dY (zsY (zsL D (upw (dL D) (spt o i) (dL D (spt o i) ++ [(l[j].1, l[j].2, b)]))) (upw (dY D) o (dY D o + nI 1))) o + nI d)) = zsY (zsL D (upw (dL D) (spt o i) (l.map (fun x => (x.1, x.2, b))))) (upw (dY D) o (dY D o + nI (d + 1))) := by
        refine Dy_ext ?_ ?_ ?_ ?_ ?_ ?_ ?_ ?_ ?_ ?_ ?_ ?_ ?_ ?_ ?_ ?_ ?_ ?_ ?_ <;> simp only [gs_Y, gs_L, upw_upw]
        rw [upw_eq, Int32.add_assoc, nI_add, Nat.add_comm 1 d]
      rw [heq] at C2
      exact C2
/-- a record taken in, after it has left its channel -/
def tinD (E : Env) (D : Dy) (o i : Nat) (x : Rec) : Dy :=
  let pr := proc (eK E o) (eA E o) (eB E o) (dK D o x.1) x.1 x.2.1
  let D2 := zsY (zsX (zsL (zsK D (upw (dK D) o (fun k => if k = x.1 then pr.2 else dK D o k))) (upw (dL D) (spt o i) (pr.1.map fun y => (y.1, y.2, x.2.2)))) (upw (dX D) o (dX D o + 1))) (upw (dY D) o (dY D o + nI pr.1.length))
  if o = eN E + 1 then mvLat E D2 x.2.2 else D2
theorem m_takesIn (sh : shM T) (hE : okE E) (hA : okA E) (hC : MR E D Q r (eT E + 1) I T) (hs : vS E o i) (h1 : 1 ≤ o) (x : Rec) (hb : x.2.2 ≤ eT E) (hb2 : eT E - x.2.2 < 40000) (hT : eT E < 2 ^ 30) (hl : dL D (spt o i) = []) (h3 : ∀ x, x < 18 → (dL D x).length ≤ 3) (h6 : zK E (dK D)) : ∃ I' T', f_m_takesIn 492 (nI o) (nI i) (kv x.1) x.2.1 (nI x.2.2) ((I, T) : Mem) = some ((I', T') : Mem) ∧ MR E (tinD E D o i x) Q r (eT E + 1) I' T' ∧ FM I I' ∧ JM T T' := by
  have n4 := hE.1
  have ho := hs.1
  have s18 := spt18 hE hs
  obtain ⟨kd, hkd⟩ : ∃ kd, kd = eK E o := ⟨_, rfl⟩
  have hx0 := (hC.2.2.2.2.1 o (by omega)).1
  obtain ⟨C1, F1⟩ := MR_X (o := o) (v := dX D o + nI 1) hC
  obtain ⟨I1, hI1⟩ : ∃ I1, I1 = u2 I 500 o (dX D o + nI 1) := ⟨_, rfl⟩
  rw [← hI1] at C1 F1
  obtain ⟨c1, c2, c3, c4⟩ := C1.1.op ho
  have hk7 : eK E o ≠ 7 := by
    by_cases hz : o = eN E + 1
    · rw [hz, hE.2.2.2.2.1]; omega
    · have := hE.2.2.2.2.2.1 o h1 (by omega); omega
  have hc3 : cop3 (eK E o) (eA E o) := fun z => by
    by_cases hz : o = eN E + 1
    · rw [hz, hE.2.2.2.2.1] at z; omega
    · exact hA o h1 (by omega) z
  have hlen := proc_len (kind := eK E o) (a := eA E o) (b := eB E o) (st := dK D o x.1) (k := x.1) (v := x.2.1) (fun z => by
    obtain ⟨c, hc, he⟩ := hc3 z
    rw [he, nI_clamp (by omega)]
    exact hc)
  obtain ⟨I2, e2, f2, o2, k2⟩ := m_processes (T := T) (p := 504) (q := 507) (u := 510) (f := dK D) (I := I1) sh sh.k504 sh.l504 sh.k507 sh.l507 sh.k510 sh.l510 (by omega) (by omega) (by omega) (by omega) (by omega) c1 c2 c3 (kind_le hE ho) hk7 hc3 x.1 x.2.1 (fun z e he => h6.2 o x.1 e z he) C1.2.2.2.1
  obtain ⟨C2, F2⟩ := MR_FP (o := o) C1 f2 k2
  obtain ⟨pr, hpr⟩ : ∃ pr, pr = proc (eK E o) (eA E o) (eB E o) (dK D o x.1) x.1 x.2.1 := ⟨_, rfl⟩
  rw [← hpr] at o2 k2 C2 hlen
  obtain ⟨I3, n', e3, C3, F3, O3⟩ := m_outs (T := T) sh hE hs x.2.2 pr.1 hlen.1 pr.1.length FU 0 _ I2 (by omega) (by unfold FU; omega) C2 o2 (by simp only [gs_X, gs_K]; rw [hl]; rfl) (fun y hy => by simp only [gs_X, gs_K]; exact h3 y hy)
  have e4 := m_sink (T := T) (E := E) sh C3.1.1
  have o68 := O3.1
  have epre : f_m_takesIn 492 (nI o) (nI i) (kv x.1) x.2.1 (nI x.2.2) ((I, T) : Mem) = f_m_takesIn_33 (n' + 1) 492 (nI o) (nI i) (nI x.2.2) (nI pr.1.length) ((I3, T) : Mem) := by
    rw [← e3]
    unfold f_m_takesIn
    simp (disch := omega) only [↓sh.gI, ↓sh.pI, ↓sh.ck, ↓cI_x, ↓cV_x, ↓nmI_t, ↓reduceIte, rmI_t, dvI_t, nI_add, pk_mul, pk_sub, nI_leI, nI_ltI, nI_eq, n_leT, n_leF, n_ltT, n_ltF, n_eqT, n_eqF, u2_ne, u2_at, u2_nj, ↓i_neg1, m1_ne, m1_en, m1_lt, m1_le, m1_nlt, m1_nle, i_lits, true_and, and_true, ↓sh.g20, ↓sh.g24, ↓sh.g27, ↓sh.g30, sh.a500, sh.a504, sh.a507, sh.a510, sh.s500, sh.s504, sh.s507, sh.s510, hx0, ← hI1, e2]
  have hD : ∀ D2 : Dy, D2 = zsY (zsL (zsK (zsX D (upw (dX D) o (dX D o + nI 1))) (upw (dK (zsX D (upw (dX D) o (dX D o + nI 1)))) o (fun k => if k = x.1 then pr.2 else dK D o k))) (upw (dL (zsK (zsX D (upw (dX D) o (dX D o + nI 1))) (upw (dK (zsX D (upw (dX D) o (dX D o + nI 1)))) o (fun k => if k = x.1 then pr.2 else dK D o k)))) (spt o i) (pr.1.map (fun y => (y.1, y.2, x.2.2))))) (upw (dY (zsK (zsX D (upw (dX D) o (dX D o + nI 1))) (upw (dK (zsX D (upw (dX D) o (dX D o + nI 1)))) o (fun k => if k = x.1 then pr.2 else dK D o k)))) o (dY (zsK (zsX D (upw (dX D) o (dX D o + nI 1))) (upw (dK (zsX D (upw (dX D) o (dX D o + nI 1)))) o (fun k => if k = x.1 then pr.2 else dK D o k))) o + nI pr.1.length)) → D2 = zsY (zsX (zsL (zsK D (upw (dK D) o (fun k => if k = x.1 then pr.2 else dK D o k))) (upw (dL D) (spt o i) (pr.1.map fun y => (y.1, y.2, x.2.2)))) (upw (dX D) o (dX D o + 1))) (upw (dY D) o (dY D o + nI pr.1.length)) := fun D2 h => by
    refine Dy_ext ?_ ?_ ?_ ?_ ?_ ?_ ?_ ?_ ?_ ?_ ?_ ?_ ?_ ?_ ?_ ?_ ?_ ?_ ?_ <;> simp only [h, gs_Y, gs_L, gs_K, gs_X, nI_lit1]
  rw [hD _ rfl] at C3
  obtain ⟨D2, hD2⟩ : ∃ D2, D2 = zsY (zsX (zsL (zsK D (upw (dK D) o (fun k => if k = x.1 then pr.2 else dK D o k))) (upw (dL D) (spt o i) (pr.1.map fun y => (y.1, y.2, x.2.2)))) (upw (dX D) o (dX D o + 1))) (upw (dY D) o (dY D o + nI pr.1.length)) := ⟨_, rfl⟩
  rw [← hD2] at C3
  by_cases hz : o = eN E + 1
  · have t0 : ∀ t, t < 40000 → I3 534 t = nI (dT D2 t) := fun t ht => C3.2.2.2.2.2.2.1.1 t ht
    have t1 : I3 492 58 = nI (dM D2) := C3.2.2.2.2.2.2.1.2.1
    have t2 : (tJ T 492 59).toInt32 = dU D2 := C3.2.2.2.2.2.2.1.2.2
    have t3 : I3 492 15 = nI (eT E + 1) := C3.2.2.2.2.2.1.2.1
    obtain ⟨b, hb'⟩ : ∃ b, b = x.2.2 := ⟨_, rfl⟩
    rw [← hb'] at hb hb2 epre
    have t4 := t0 (eT E - b) hb2
    obtain ⟨C4, F4⟩ := MR_lat (t := eT E - b) (m := dT D2 (eT E - b) + 1) (w := tJ T 492 59 + (nI (eT E - b)).toInt64) (u := dU D2 + nI (eT E - b)) C3 rfl (by rw [j_add, t2])
    refine ⟨u2 (u2 I3 534 (eT E - b) (nI (dT D2 (eT E - b) + 1))) 492 58 (nI (dM D2 + 1)), seJ T 492 59 (tJ T 492 59 + (nI (eT E - b)).toInt64), ?_, ?_, FM_tr F1 (FM_tr F2 (FM_tr F3 F4)), JM_se⟩
    · rw [← hb', epre]
      unfold f_m_takesIn_33
      simp (disch := omega) only [↓sh.gI, ↓sh.pI, ↓sh.ck, ↓cI_x, ↓cV_x, ↓nmI_t, ↓reduceIte, rmI_t, dvI_t, nI_add, pk_mul, pk_sub, nI_leI, nI_ltI, nI_eq, n_leT, n_leF, n_ltT, n_ltF, n_eqT, n_eqF, u2_ne, u2_at, u2_nj, ↓i_neg1, m1_ne, m1_en, m1_lt, m1_le, m1_nlt, m1_nle, i_lits, true_and, and_true, ↓sh.g57, ↓sh.g66, ↓sh.g67, sh.a534, sh.a539, sh.a540, sh.s534, sh.s539, sh.s540, o68, e4, t1, t3, t4, ↓sh.gJ, ↓sh.pJ, Nat.add_sub_cancel]
    · unfold tinD
      simp only [if_pos hz, ← hpr, ← hD2]
      unfold mvLat
      rw [← hb']
      exact C4
  · refine ⟨I3, T, ?_, ?_, FM_tr F1 (FM_tr F2 F3), JM_rf⟩
    · rw [epre]
      unfold f_m_takesIn_33
      simp (disch := omega) only [↓sh.gI, ↓sh.pI, ↓sh.ck, ↓cI_x, ↓cV_x, ↓nmI_t, ↓reduceIte, rmI_t, dvI_t, nI_add, pk_mul, pk_sub, nI_leI, nI_ltI, nI_eq, n_leT, n_leF, n_ltT, n_ltF, n_eqT, n_eqF, u2_ne, u2_at, u2_nj, ↓i_neg1, m1_ne, m1_en, m1_lt, m1_le, m1_nlt, m1_nle, i_lits, true_and, and_true, ↓sh.g57, ↓sh.g66, ↓sh.g67, sh.a534, sh.a539, sh.a540, sh.s534, sh.s539, sh.s540, o68, e4]
    · unfold tinD
      simp only [if_neg hz, ← hpr, ← hD2]
      exact C3
end
