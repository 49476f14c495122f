/-! CALLS: count, operator, instance, channel, state, savedState -/
def sumF (F : Nat → Nat) : Nat → Nat → Nat
  | _, 0 => 0
  | x, d + 1 => F x + sumF F (x + 1) d
def accI (F : Nat → Int32) : Int32 → Nat → Nat → Int32
  | a, _, 0 => a
  | a, x, d + 1 => accI F (a + F x) (x + 1) d
/-- the number that a state tells -/
def numA (f : Kst) (key sec : Int32) : Int32 := if inI key 0 15 then (if (f (kf key.toNatClampNeg)).isSome then (if sec = 0 then fst0 (f (kf key.toNatClampNeg)) else if sec = 1 then snd0 (f (kf key.toNatClampNeg)) else -1000000002) else -1000000001) else -1000000001
def inOk (E : Env) (p q : Int32) : Bool := opOk E p && inI q (nI 0) (nI (eP E p.toNatClampNeg - 1))
def ownP (f : Kst) (w i x : Nat) : Bool := (f (kf x)).isSome && decide (home w (kf x) = i)
section
variable {T T' : Tl} {I I' : Iw} {E E' : Env} {D D' : Dy} {Q Q' : Slow} {S : Sy} {g g' : Nat → Kst} {o i j s c r tk k m : Nat}
theorem sumF_split {F : Nat → Nat} : ∀ {a b x : Nat}, sumF F x (a + b) = sumF F x a + sumF F (x + a) b
  | 0, b, x => by rw [Nat.zero_add, Nat.add_zero]; exact (Nat.zero_add _).symm
  | a + 1, b, x => by
    rw [show a + 1 + b = (a + b) + 1 by omega]
    show F x + sumF F (x + 1) (a + b) = (F x + sumF F (x + 1) a) + sumF F (x + (a + 1)) b
    rw [sumF_split, show x + 1 + a = x + (a + 1) by omega, Nat.add_assoc]
theorem sumF_z {F : Nat → Nat} : ∀ {d x : Nat}, (∀ y, x ≤ y → F y = 0) → sumF F x d = 0
  | 0, _, _ => rfl
  | d + 1, x, h => by
    unfold sumF
    rw [h x (Nat.le_refl _), sumF_z (fun y hy => h y (by omega))]
theorem sumF_N {F : Nat → Nat} : ∀ {d x : Nat}, sumN x F + sumF F x d = sumN (x + d) F
  | 0, _ => rfl
  | d + 1, x => by
    unfold sumF
    rw [show x + (d + 1) = (x + 1) + d by omega, ← sumF_N (d := d) (x := x + 1)]
    simp only [sumN]
    omega
theorem flatQ_n : ∀ (q : List Bt), (flatQ q).length = nrec q
  | [] => rfl
  | none :: q => flatQ_n q
  | some l :: q => by
    show (l ++ flatQ q).length = l.length + nrec q
    rw [List.length_append, flatQ_n q]
theorem xch_loop (sh : shSm T) (hC : ChsC I D) : ∀ (d n c a : Nat), c + d = 45 → d < n → f_sm_recordsInChannels_13 n (nI a) 17 (nI 45) (nI c) ((I, T) : Mem) = some (nI (a + sumF (fun x => csz (dC D x)) c d), ((I, T) : Mem))
  | d, 0, c, a, _, hn => by omega
  | 0, n + 1, c, a, hc, hn => by
    have : c = 45 := by omega
    subst this
    unfold f_sm_recordsInChannels_13
    exact if_pos (by decide)
  | d + 1, n + 1, c, a, hc, hn => by
    have k17 := sh.2.2.2.2.2.2.2.2.2.1
    have kl17 := sh.2.2.2.2.2.2.2.2.2.2.1
    have kr17 := sh.2.2.2.2.2.2.2.2.2.2.2.2.2.2.1 c (by omega)
    have kch := sh.ch (c := c) (by omega)
    have k1 := kch.1
    have kr := kch.2.2.1
    have krc := kch.2.2.2.2.2.2.2.2.1
    have h5 := (hC c (by omega)).1.2.2.1
    have hl : (flatH (dC D c)).length = csz (dC D c) := by
      unfold flatH csz
      rw [List.length_append, flatQ_n]
    rw [hl] at h5
    have ih := xch_loop sh hC d n (c + 1) (a + csz (dC D c)) (by omega) (by omega)
    have h45 : ¬ nI 45 ≤ nI c := fun z => by have := (nI_leI (a := 45) (by omega) (by omega)).mp z; omega
    unfold f_sm_recordsInChannels_13 f_sm_recordsInChannels_41 sumF
    rw [if_neg h45, aA_t (by omega) (by omega) (by omega), kr17, onR_s, gA_t k1, kr, onR_s, gI_t krc, h5, nI_add, show nI c + (1 : Int32) = nI (c + 1) from nI_1 _, ih, Nat.add_assoc]
theorem min_loop (sh : shM T) {c : Nat} (hc : c < 54) : ∀ (q : List Bt) (n x a N : Nat), I 528 c = nI N → N = x + q.length → N ≤ 4 → q.length < n → (∀ y (h : y < q.length), BtM I c (x + y) 0 q[y]) → f_m_inside_16 n 492 (nI c) (nI a) (nI x) ((I, T) : Mem) = some (nI (a + nrec q), ((I, T) : Mem))
  | q, 0, x, a, N, _, _, _, hn, _ => by omega
  | [], n + 1, x, a, N, hN, hx, h4, hn, hB => by
    have e : N = x := hx
    subst e
    unfold f_m_inside_16
    rw [sh.g51, sh.a528 hc, hN, if_pos ((nI_leI (by omega) (by omega)).mpr (Nat.le_refl _))]
    rfl
  | b :: q, n + 1, x, a, N, hN, hx, h4, hn, hB => by
    rw [List.length_cons] at hx hn
    have hb := hB 0 (by rw [List.length_cons]; omega)
    simp only [List.getElem_cons_zero, Nat.add_zero] at hb
    have hB' : ∀ y (h : y < q.length), BtM I c (x + 1 + y) 0 q[y] := fun y h => by
      have := hB (y + 1) (by rw [List.length_cons]; omega)
      simp only [List.getElem_cons_succ] at this
      rw [show x + 1 + y = x + (y + 1) by omega]
      exact this
    have hi : (4 : Int32) * nI c + nI x = nI (4 * c + x) := by rw [show (4 : Int32) = nI 4 from rfl, pk_mul, nI_add]
    unfold f_m_inside_16 f_m_inside_54
    rw [sh.g51, sh.a528 hc, hN, if_neg (fun z => by have := (nI_leI (by omega) (by omega)).mp z; omega), hi, sh.g53, sh.a530 (by omega), show nI x + (1 : Int32) = nI (x + 1) from nI_1 _]
    cases b with
    | none =>
      have h0 : I 530 (4 * c + x) = m1 := hb.1
      have ih := min_loop sh hc q n (x + 1) a N hN (by omega) h4 (by omega) hB'
      rw [h0, if_pos (by decide), show nI a + (0 : Int32) = nI a by rw [show (0 : Int32) = nI 0 from rfl, nI_add, Nat.add_zero], ih]
      rfl
    | some l =>
      have h0 : I 530 (4 * c + x) = nI (0 + l.length) := hb.1
      have hl4 : 0 + l.length ≤ 4 := hb.2.1
      rw [Nat.zero_add] at h0 hl4
      rw [h0]
      by_cases hz : l.length = 0
      · have ih := min_loop sh hc q n (x + 1) a N hN (by omega) h4 (by omega) hB'
        rw [hz, if_pos (by decide), show nI a + (0 : Int32) = nI a by rw [show (0 : Int32) = nI 0 from rfl, nI_add, Nat.add_zero], ih]
        show some (nI (a + nrec q), _) = some (nI (a + (l.length + nrec q)), _)
        rw [hz, Nat.zero_add]
      · have ih := min_loop sh hc q n (x + 1) (a + l.length) N hN (by omega) h4 (by omega) hB'
        rw [if_neg (fun z => by have := (nI_leI (b := 0) (by omega) (by omega)).mp z; omega), sh.g53, sh.a530 (by omega), h0, nI_add, ih]
        show some (nI (a + l.length + nrec q), _) = some (nI (a + (l.length + nrec q)), _)
        rw [Nat.add_assoc]
theorem m_inside (sh : shM T) {c : Nat} {h : Ch} (hc : c < 54) (hh : ChM I c h) (h4 : h.1.length ≤ 4) : f_m_inside 492 (nI c) ((I, T) : Mem) = some (nI (csz h), ((I, T) : Mem)) := by
  obtain ⟨q, l, ag⟩ := h
  obtain ⟨h1, h2, h3, h5, t, t4, ht, hq0, hq⟩ := hh
  simp only at h1 h2 h3 h4 hq0 hq
  unfold f_m_inside
  rw [sh.g46, sh.a523 hc, h1, sh.g52, sh.a529 hc, ht, show (0 : Int32) = nI 0 from rfl]
  have hsz : csz (q, l, ag) = l.length + nrec q := Nat.add_comm _ _
  rw [hsz]
  cases q with
  | nil =>
    have e0 := hq0 rfl
    subst e0
    have hs : nI l.length - nI 0 = nI l.length := pk_sub (Nat.zero_le _)
    rw [hs]
    exact min_loop sh hc [] FU 0 l.length 0 h3 rfl (by omega) (by unfold FU; decide) (fun y h => absurd h (Nat.not_lt_zero _))
  | cons b q =>
    rw [List.length_cons] at h3 h4
    have hb := hq 0 (by rw [List.length_cons]; omega)
    simp only [List.getElem_cons_zero, if_true] at hb
    have hB' : ∀ y (h : y < q.length), BtM I c (1 + y) 0 q[y] := fun y h => by
      have := hq (y + 1) (by rw [List.length_cons]; omega)
      simp only [List.getElem_cons_succ, Nat.add_eq_zero_iff, Nat.succ_ne_zero, and_false, if_false] at this
      rw [show 1 + y = y + 1 by omega]
      exact this
    have hi : (4 : Int32) * nI c + nI 0 = nI (4 * c) := by rw [show (4 : Int32) = nI 4 from rfl, pk_mul, nI_add, Nat.add_zero]
    rw [show FU = 199999 + 1 from rfl]
    unfold f_m_inside_16 f_m_inside_54
    rw [sh.g51, sh.a528 hc, h3, if_neg (fun z => by have := (nI_leI (b := 0) (by omega) (by omega)).mp z; omega), hi, sh.g53, sh.a530 (by omega), show nI 0 + (1 : Int32) = nI 1 from rfl]
    cases b with
    | none =>
      have h0 : I 530 (4 * c) = m1 := hb.1
      have e0 : t = 0 := hb.2
      subst e0
      have hs : nI l.length - nI 0 = nI l.length := pk_sub (Nat.zero_le _)
      have ih := min_loop sh hc q 199999 1 l.length (q.length + 1) h3 (by omega) h4 (by omega) hB'
      rw [h0, if_pos (by decide), hs, show nI l.length + (0 : Int32) = nI l.length by rw [show (0 : Int32) = nI 0 from rfl, nI_add, Nat.add_zero], ih]
      rfl
    | some l' =>
      have h0 : I 530 (4 * c) = nI (t + l'.length) := hb.1
      have hl4 : t + l'.length ≤ 4 := hb.2.1
      rw [h0]
      by_cases hz : t + l'.length = 0
      · have e0 : t = 0 := by omega
        have e1 : l'.length = 0 := by omega
        subst e0
        have hs : nI l.length - nI 0 = nI l.length := pk_sub (Nat.zero_le _)
        have ih := min_loop sh hc q 199999 1 l.length (q.length + 1) h3 (by omega) h4 (by omega) hB'
        rw [hz, if_pos (by decide), hs, show nI l.length + (0 : Int32) = nI l.length by rw [show (0 : Int32) = nI 0 from rfl, nI_add, Nat.add_zero], ih]
        show some (nI (l.length + nrec q), _) = some (nI (l.length + (l'.length + nrec q)), _)
        rw [e1, Nat.zero_add]
      · have ih := min_loop sh hc q 199999 1 (l.length + l'.length) (q.length + 1) h3 (by omega) h4 (by omega) hB'
        have hs : nI l.length - nI t + nI (t + l'.length) = nI (l.length + l'.length) := by
          rw [← nI_add, ← Int32.add_assoc, Int32.sub_add_cancel, nI_add]
        rw [if_neg (fun z => by have := (nI_leI (b := 0) (by omega) (by omega)).mp z; omega), sh.g53, sh.a530 (by omega), h0, hs, ih]
        show some (nI (l.length + l'.length + nrec q), _) = some (nI (l.length + (l'.length + nrec q)), _)
        rw [Nat.add_assoc]
theorem mch_loop (sh : shM T) (hE : okE E) (hI : Inv E D) (hC : ChsM I D) : ∀ (d n c a : Nat), c + d = 54 → d < n → f_m_count_107 n 492 (nI a) (nI c) ((I, T) : Mem) = some (nI (a + sumF (fun x => csz (dC D x)) c d), ((I, T) : Mem))
  | d, 0, c, a, _, hn => by omega
  | 0, n + 1, c, a, hc, hn => by
    have : c = 54 := by omega
    subst this
    unfold f_m_count_107
    exact if_pos (by decide)
  | d + 1, n + 1, c, a, hc, hn => by
    have e := m_inside (T := T) sh (by omega) (hC c (by omega)) (ch_lens hE hI c).1
    have ih := mch_loop sh hE hI hC d n (c + 1) (a + csz (dC D c)) (by omega) (by omega)
    have h54 : ¬ (54 : Int32) ≤ nI c := fun z => by have := (nI_leI (a := 54) (by omega) (by omega)).mp z; omega
    unfold f_m_count_107 sumF
    rw [if_neg h54, sh.ck, e, cI_x, nI_add, show nI c + (1 : Int32) = nI (c + 1) from nI_1 _, ih, Nat.add_assoc]
theorem mls_loop (sh : shM T) (hN : InsM I D) : ∀ (d n s a : Nat), s + d = 18 → d < n → f_m_count_131 n 492 (nI a) (nI s) ((I, T) : Mem) = some (nI (a + sumF (fun x => (dL D x).length) s d), ((I, T) : Mem))
  | d, 0, s, a, _, hn => by omega
  | 0, n + 1, s, a, hs, hn => by
    have : s = 18 := by omega
    subst this
    unfold f_m_count_131
    exact if_pos (by decide)
  | d + 1, n + 1, s, a, hs, hn => by
    have h1 := (hN s (by omega)).1.1
    have ih := mls_loop sh hN d n (s + 1) (a + (dL D s).length) (by omega) (by omega)
    have h18 : ¬ (18 : Int32) ≤ nI s := fun z => by have := (nI_leI (a := 18) (by omega) (by omega)).mp z; omega
    unfold f_m_count_131 sumF
    rw [if_neg h18, sh.g39, sh.a516 (by omega), h1, nI_add, show nI s + (1 : Int32) = nI (s + 1) from nI_1 _, ih, Nat.add_assoc]
theorem xsk_loop (sh : shSm T) (ho : o < 6) {f : Kst} (hK : KyC I (20 + 33 * o + 2) f) : ∀ (d n x : Nat) (a : Int32), x + d = 16 → d < n → f_sm_recordsInSink_15 n (some (20 + 33 * o)) a (nI x) ((I, T) : Mem) = some (accI (fun y => snd0 (f (kf y))) a x d, ((I, T) : Mem))
  | d, 0, x, a, _, hn => by omega
  | 0, n + 1, x, a, hx, hn => by
    have : x = 16 := by omega
    subst this
    unfold f_sm_recordsInSink_15
    rw [onR_s]
    exact if_pos (by decide)
  | d + 1, n + 1, x, a, hx, hn => by
    have kop := sh.op ho
    have k1 := kop.1
    have kr1 := kop.2.2.2.2.2.1
    have ky := kop.2.2.2.2.2.2.2.2.2.2.1
    have ky1 := ky.1
    have e1 : f_ky_secondOf (20 + 33 * o + 2) (nI x) ((I, T) : Mem) = some (snd0 (f (kf x)), ((I, T) : Mem)) := by
      rw [kv_kf (x := x) (by omega)]
      exact (ky_at ky hK (kf x)).2.2
    have ih := xsk_loop sh ho hK d n (x + 1) (a + snd0 (f (kf x))) (by omega) (by omega)
    have h16 : ¬ (16 : Int32) ≤ nI x := fun z => by have := (nI_leI (a := 16) (by omega) (by omega)).mp z; omega
    unfold f_sm_recordsInSink_15 accI
    rw [onR_s, if_neg h16, gA_t k1, kr1, onR_s, ck_t ky1, e1, cI_x, show nI x + (1 : Int32) = nI (x + 1) from nI_1 _, ih]
theorem msk_loop (sh : shM T) (hc : CoM I E) (n4 : eN E ≤ 4) {f : Nat → Kst} (hK : KyM I 504 507 510 f) : ∀ (d n x : Nat) (a : Int32), x + d = 16 → d < n → f_m_count_156 n 492 a (nI x) ((I, T) : Mem) = some (accI (fun y => snd0 (f (eN E + 1) (kf y))) a x d, ((I, T) : Mem))
  | d, 0, x, a, _, hn => by omega
  | 0, n + 1, x, a, hx, hn => by
    have : x = 16 := by omega
    subst this
    unfold f_m_count_156
    exact if_pos (by decide)
  | d + 1, n + 1, x, a, hx, hn => by
    have e := m_sink (T := T) sh hc.1
    obtain ⟨hb, hv⟩ := hK (eN E + 1) (kf x) (by omega)
    rw [kf_val (by omega)] at hb hv
    have ih := msk_loop sh hc n4 hK d n (x + 1) (a + snd0 (f (eN E + 1) (kf x))) (by omega) (by omega)
    have h16 : ¬ (16 : Int32) ≤ nI x := fun z => by have := (nI_leI (a := 16) (by omega) (by omega)).mp z; omega
    have hi : (16 : Int32) * nI (eN E + 1) + nI x = nI (16 * (eN E + 1) + x) := by rw [show (16 : Int32) = nI 16 from rfl, pk_mul, nI_add]
    unfold f_m_count_156 f_m_count_198 accI
    rw [if_neg h16, sh.g24, sh.ck, e, cI_x, hi, sh.a504 (by omega), hb, b01_cs, show nI x + (1 : Int32) = nI (x + 1) from nI_1 _]
    cases hs : f (eN E + 1) (kf x) with
    | none =>
      rw [hs] at ih
      rw [if_neg (by decide)]
      exact ih
    | some v =>
      rw [hs] at ih
      rw [if_pos (show (some v).isSome = true from rfl), sh.g30, sh.ck, e, cI_x, hi, sh.a510 (by omega), (hv v hs).2]
      exact ih
theorem inI9 {p : Int32} (hp : inI p 0 9 = false) (N : Nat) (h9 : N ≤ 9) : p ≠ nI N := fun e => by
  have : inI (nI N) 0 9 = true := by
    unfold inI
    rw [decide_eq_false (show ¬ nI N < (0 : Int32) from fun z => by have := (nI_ltI (b := 0) (by omega) (by omega)).mp z; omega), decide_eq_false (show ¬ (9 : Int32) < nI N from fun z => by have := (nI_ltI (a := 9) (by omega) (by omega)).mp z; omega)]
    rfl
  rw [e, this] at hp
  cases hp
theorem rd_count (hC : SC S I T) (sh : shM T) (hM : SM S I T) (h : PD S k) (p : Int32) : ∃ v, f_x_count 0 p ((I, T) : Mem) = some (v, ((I, T) : Mem)) ∧ f_m_count 492 p ((I, T) : Mem) = some (v, ((I, T) : Mem)) := by
  obtain ⟨shs, shx, h550, -, -, ⟨g, hCT⟩, -⟩ := hC
  have hE := h.1.1
  have hI := h.1.2.2.1
  have n4 := hE.1
  obtain ⟨x0, -, -, -, x3, -⟩ := shx
  have ksm := shs.1
  have l1 : (7 : Int32) = nI 7 := rfl
  cases hp : inI p 0 9 with
  | false =>
    refine ⟨-1000000002, ?_, ?_⟩
    · unfold f_x_count
      rw [if_neg (show ¬ p = (0 : Int32) from inI9 hp 0 (by omega)), if_neg (show ¬ p = (1 : Int32) from inI9 hp 1 (by omega)), if_neg (show ¬ p = (2 : Int32) from inI9 hp 2 (by omega)), if_neg (show ¬ p = (3 : Int32) from inI9 hp 3 (by omega)), if_neg (show ¬ p = (4 : Int32) from inI9 hp 4 (by omega)), if_neg (show ¬ p = (5 : Int32) from inI9 hp 5 (by omega)), if_neg (show ¬ p = (6 : Int32) from inI9 hp 6 (by omega)), if_neg (show ¬ p = (7 : Int32) from inI9 hp 7 (by omega)), if_neg (show ¬ p = (8 : Int32) from inI9 hp 8 (by omega)), if_neg (show ¬ p = (9 : Int32) from inI9 hp 9 (by omega))]
    · unfold f_m_count
      rw [m_isIn, cI_x, hp]
      rfl
  | true =>
    obtain ⟨N, -, h9, rfl⟩ := inI_rng (a := 0) (b := 9) (by omega) (by omega) hp
    obtain ⟨q1, q2, q3, q4, q5, q6, q7, q8, v1, v2, v3, v4, v5, v6, v7, v8⟩ := hM.1
    have k12 := shs.2.2.1
    have krc := shs.2.2.2.2.2.2.2.2.2.2.2.2.1.1
    have w3 := hCT.2.2.2.2.2.2.2.1
    have w4 := hCT.2.2.2.2.2.2.2.2.2.2
    have hsz := hCT.2.2.2.2.2.2.2.2.1.2.2.1
    rw [List.length_map] at hsz
    unfold f_x_count f_m_count
    rw [m_isIn, cI_x, hp, b01_cs, if_pos rfl]
    rcases (by omega : N = 0 ∨ N = 1 ∨ N = 2 ∨ N = 3 ∨ N = 4 ∨ N = 5 ∨ N = 6 ∨ N = 7 ∨ N = 8 ∨ N = 9) with rfl | rfl | rfl | rfl | rfl | rfl | rfl | rfl | rfl | rfl
    · refine ⟨nI (eN (yE S)) + 2, ?_, ?_⟩
      · rw [if_pos (show nI 0 = (0 : Int32) by decide), gA_t x0, x3, onR_s, gI_t ksm, hCT.1.1]
      · rw [if_pos (show nI 0 = (0 : Int32) by decide), sh.gI, q1.1]
    · refine ⟨nI (eI (yE S)).length, ?_, ?_⟩
      · rw [if_neg (show ¬ nI 1 = (0 : Int32) by decide), if_pos (show nI 1 = (1 : Int32) by decide), gA_t x0, x3, onR_s, gA_t ksm, k12, onR_s, gI_t krc, hsz]
      · rw [if_neg (show ¬ nI 1 = (0 : Int32) by decide), if_pos (show nI 1 = (1 : Int32) by decide), sh.gI, q1.2.2.2.2.2.1]
    · refine ⟨nI (dO (yD S)), ?_, ?_⟩
      · rw [if_neg (show ¬ nI 2 = (0 : Int32) by decide), if_neg (show ¬ nI 2 = (1 : Int32) by decide), if_pos (show nI 2 = (2 : Int32) by decide), gA_t x0, x3, onR_s, gI_t ksm, w3.1]
      · rw [if_neg (show ¬ nI 2 = (0 : Int32) by decide), if_neg (show ¬ nI 2 = (1 : Int32) by decide), if_pos (show nI 2 = (2 : Int32) by decide), sh.gI, q6.1]
    · refine ⟨nI (eT (yE S)), ?_, ?_⟩
      · rw [if_neg (show ¬ nI 3 = (0 : Int32) by decide), if_neg (show ¬ nI 3 = (1 : Int32) by decide), if_neg (show ¬ nI 3 = (2 : Int32) by decide), if_pos (show nI 3 = (3 : Int32) by decide), gA_t x0, x3, onR_s, gI_t ksm, w3.2.1]
      · rw [if_neg (show ¬ nI 3 = (0 : Int32) by decide), if_neg (show ¬ nI 3 = (1 : Int32) by decide), if_neg (show ¬ nI 3 = (2 : Int32) by decide), if_pos (show nI 3 = (3 : Int32) by decide), sh.gI, q6.2.1]
    · refine ⟨nI (qC (yQ S)), ?_, ?_⟩
      · rw [if_neg (show ¬ nI 4 = (0 : Int32) by decide), if_neg (show ¬ nI 4 = (1 : Int32) by decide), if_neg (show ¬ nI 4 = (2 : Int32) by decide), if_neg (show ¬ nI 4 = (3 : Int32) by decide), if_pos (show nI 4 = (4 : Int32) by decide), gA_t x0, x3, onR_s, gI_t ksm, w4.2.2.2.2.2.1]
      · rw [if_neg (show ¬ nI 4 = (0 : Int32) by decide), if_neg (show ¬ nI 4 = (1 : Int32) by decide), if_neg (show ¬ nI 4 = (2 : Int32) by decide), if_neg (show ¬ nI 4 = (3 : Int32) by decide), if_pos (show nI 4 = (4 : Int32) by decide), sh.gI, v3]
    · refine ⟨nI (eQ (yE S)), ?_, ?_⟩
      · rw [if_neg (show ¬ nI 5 = (0 : Int32) by decide), if_neg (show ¬ nI 5 = (1 : Int32) by decide), if_neg (show ¬ nI 5 = (2 : Int32) by decide), if_neg (show ¬ nI 5 = (3 : Int32) by decide), if_neg (show ¬ nI 5 = (4 : Int32) by decide), if_pos (show nI 5 = (5 : Int32) by decide), gA_t x0, x3, onR_s, gI_t ksm, w3.2.2.1]
      · rw [if_neg (show ¬ nI 5 = (0 : Int32) by decide), if_neg (show ¬ nI 5 = (1 : Int32) by decide), if_neg (show ¬ nI 5 = (2 : Int32) by decide), if_neg (show ¬ nI 5 = (3 : Int32) by decide), if_neg (show ¬ nI 5 = (4 : Int32) by decide), if_pos (show nI 5 = (5 : Int32) by decide), sh.gI, v4]
    · refine ⟨qF (yQ S), ?_, ?_⟩
      · rw [if_neg (show ¬ nI 6 = (0 : Int32) by decide), if_neg (show ¬ nI 6 = (1 : Int32) by decide), if_neg (show ¬ nI 6 = (2 : Int32) by decide), if_neg (show ¬ nI 6 = (3 : Int32) by decide), if_neg (show ¬ nI 6 = (4 : Int32) by decide), if_neg (show ¬ nI 6 = (5 : Int32) by decide), if_pos (show nI 6 = (6 : Int32) by decide), gA_t x0, x3, onR_s, gI_t ksm, w4.2.2.2.2.1]
      · rw [if_neg (show ¬ nI 6 = (0 : Int32) by decide), if_neg (show ¬ nI 6 = (1 : Int32) by decide), if_neg (show ¬ nI 6 = (2 : Int32) by decide), if_neg (show ¬ nI 6 = (3 : Int32) by decide), if_neg (show ¬ nI 6 = (4 : Int32) by decide), if_neg (show ¬ nI 6 = (5 : Int32) by decide), if_pos (show nI 6 = (6 : Int32) by decide), sh.gI, v5]
    · have k3 := shs.2.2.2.2.1
      have k17 := shs.2.2.2.2.2.2.2.2.2.1
      have kl17 := shs.2.2.2.2.2.2.2.2.2.2.1
      have e1 := xch_loop (T := T) shs hCT.2.1 45 FU 0 0 (by omega) (by unfold FU; omega)
      have e2 := mch_loop (T := T) sh hE hI q2 54 FU 0 0 (by omega) (by unfold FU; omega)
      have e3 : sumF (fun x => csz (dC (yD S) x)) 0 54 = sumF (fun x => csz (dC (yD S) x)) 0 45 := by
        rw [show 54 = 45 + 9 from rfl, sumF_split, sumF_z (x := 0 + 45) (fun y hy => ?_), Nat.add_zero]
        obtain ⟨z1, z2⟩ := hI.2.1 y (fun o i j v e => by have := lin45 hE v; omega)
        unfold csz
        rw [z1, z2]
        rfl
      rw [Nat.zero_add] at e1 e2
      rw [e3] at e2
      refine ⟨nI (sumF (fun x => csz (dC (yD S) x)) 0 45), ?_, ?_⟩
      · unfold f_sm_recordsInChannels
        rw [if_neg (show ¬ nI 7 = (0 : Int32) by decide), if_neg (show ¬ nI 7 = (1 : Int32) by decide), if_neg (show ¬ nI 7 = (2 : Int32) by decide), if_neg (show ¬ nI 7 = (3 : Int32) by decide), if_neg (show ¬ nI 7 = (4 : Int32) by decide), if_neg (show ¬ nI 7 = (5 : Int32) by decide), if_neg (show ¬ nI 7 = (6 : Int32) by decide), if_pos (show nI 7 = (7 : Int32) by decide), gA_t x0, x3, onR_s, ck_t ksm, gA_t ksm, k3, onR_s, aN_t (by omega) (by omega), kl17, show (0 : Int32) = nI 0 from rfl, e1, cI_x]
      · rw [if_neg (show ¬ nI 7 = (0 : Int32) by decide), if_neg (show ¬ nI 7 = (1 : Int32) by decide), if_neg (show ¬ nI 7 = (2 : Int32) by decide), if_neg (show ¬ nI 7 = (3 : Int32) by decide), if_neg (show ¬ nI 7 = (4 : Int32) by decide), if_neg (show ¬ nI 7 = (5 : Int32) by decide), if_neg (show ¬ nI 7 = (6 : Int32) by decide), if_pos (show nI 7 = (7 : Int32) by decide), show (0 : Int32) = nI 0 from rfl, e2]
    · have e1 := sm_lists (T := T) shs hE hI hCT
      have e2 := mls_loop (T := T) sh q3 18 FU 0 0 (by omega) (by unfold FU; omega)
      have e3 : sumF (fun x => (dL (yD S) x).length) 0 18 = lstN (yD S) := by
        have := sumF_N (F := fun x => (dL (yD S) x).length) (d := 18) (x := 0)
        rw [Nat.zero_add, show sumN 0 (fun x => (dL (yD S) x).length) = 0 from rfl, Nat.zero_add] at this
        exact this
      rw [Nat.zero_add, e3] at e2
      refine ⟨nI (lstN (yD S)), ?_, ?_⟩
      · rw [if_neg (show ¬ nI 8 = (0 : Int32) by decide), if_neg (show ¬ nI 8 = (1 : Int32) by decide), if_neg (show ¬ nI 8 = (2 : Int32) by decide), if_neg (show ¬ nI 8 = (3 : Int32) by decide), if_neg (show ¬ nI 8 = (4 : Int32) by decide), if_neg (show ¬ nI 8 = (5 : Int32) by decide), if_neg (show ¬ nI 8 = (6 : Int32) by decide), if_neg (show ¬ nI 8 = (7 : Int32) by decide), if_pos (show nI 8 = (8 : Int32) by decide), gA_t x0, x3, onR_s, ck_t ksm, e1, cI_x]
      · rw [if_neg (show ¬ nI 8 = (0 : Int32) by decide), if_neg (show ¬ nI 8 = (1 : Int32) by decide), if_neg (show ¬ nI 8 = (2 : Int32) by decide), if_neg (show ¬ nI 8 = (3 : Int32) by decide), if_neg (show ¬ nI 8 = (4 : Int32) by decide), if_neg (show ¬ nI 8 = (5 : Int32) by decide), if_neg (show ¬ nI 8 = (6 : Int32) by decide), if_neg (show ¬ nI 8 = (7 : Int32) by decide), if_pos (show nI 8 = (8 : Int32) by decide), show (0 : Int32) = nI 0 from rfl, e2]
    · have e0 := sm_opAt (T := T) (o := eN (yE S) + 1) shs hCT.1 n4 (by omega)
      rw [if_pos (Nat.le_refl _)] at e0
      have e1 := xsk_loop (T := T) (o := eN (yE S) + 1) shs (by omega) (hCT.2.2.2.1 (eN (yE S) + 1) (by omega)) 16 FU 0 (nI 0) (by omega) (by unfold FU; omega)
      have e2 := msk_loop (T := T) sh q1 n4 q4 16 FU 0 (nI 0) (by omega) (by unfold FU; omega)
      refine ⟨accI (fun y => snd0 (dK (yD S) (eN (yE S) + 1) (kf y))) (nI 0) 0 16, ?_, ?_⟩
      rotate_left
      · rw [if_neg (show ¬ nI 9 = (0 : Int32) by decide), if_neg (show ¬ nI 9 = (1 : Int32) by decide), if_neg (show ¬ nI 9 = (2 : Int32) by decide), if_neg (show ¬ nI 9 = (3 : Int32) by decide), if_neg (show ¬ nI 9 = (4 : Int32) by decide), if_neg (show ¬ nI 9 = (5 : Int32) by decide), if_neg (show ¬ nI 9 = (6 : Int32) by decide), if_neg (show ¬ nI 9 = (7 : Int32) by decide), if_neg (show ¬ nI 9 = (8 : Int32) by decide), show (0 : Int32) = nI 0 from rfl]
        exact e2
      · unfold f_sm_recordsInSink
        rw [if_neg (show ¬ nI 9 = (0 : Int32) by decide), if_neg (show ¬ nI 9 = (1 : Int32) by decide), if_neg (show ¬ nI 9 = (2 : Int32) by decide), if_neg (show ¬ nI 9 = (3 : Int32) by decide), if_neg (show ¬ nI 9 = (4 : Int32) by decide), if_neg (show ¬ nI 9 = (5 : Int32) by decide), if_neg (show ¬ nI 9 = (6 : Int32) by decide), if_neg (show ¬ nI 9 = (7 : Int32) by decide), if_neg (show ¬ nI 9 = (8 : Int32) by decide), if_pos (show nI 9 = (9 : Int32) by decide), gA_t x0, x3, onR_s, ck_t ksm, gI_t ksm, hCT.1.1, show nI (eN (yE S)) + (1 : Int32) = nI (eN (yE S) + 1) from nI_1 _, ck_t ksm, e0, cR_x, onR_s, show (0 : Int32) = nI 0 from rfl, e1, cI_x]
end
