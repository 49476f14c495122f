/-! CALLS: append -/
/-- a later shape, but for the rows of the two texts -/
def Et (T T' : Tl) : Prop := (∀ a, a < 550 → tK T' a = tK T a ∧ tL T' a = tL T a) ∧ ∀ a j, a < 550 → ¬ (a = 1 ∨ a = 3) → tR T' a j = tR T a j
def RmP (T : Tl) : Prop := Rm T ∧ nEq T ∧ ∀ lv, tR T 18 0 = some lv → lv < tN T
/-- a text has grown -/
def Gr (p : Nat) (I : Iw) (T : Tl) (I' : Iw) (T' : Tl) : Prop := (∀ a, a < tN T → tK T' a = tK T a ∧ tL T' a = tL T a) ∧ (∀ a j, a < 550 → ¬ (a = p ∧ j = 0) → tR T' a j = tR T a j) ∧ tN T ≤ tN T' ∧ tX T' = tX T ∧ (∀ a, a < tN T → tJ T' a = tJ T a) ∧ (RmP T → RmP T') ∧ (∀ b, tR T' p 0 = some b → tR T p 0 = some b ∨ tN T ≤ b) ∧ ∀ a, a < tN T → a ≠ p → tR T p 0 ≠ some a → I' a = I a
section
variable {T T' : Tl} {I I' : Iw} {E E' : Env} {D D' : Dy} {Q Q' : Slow} {S : Sy} {g g' : Nat → Kst} {o i j s c r tk k m : Nat}
theorem Et.rc {p m : Nat} (e : Et T T') (hp : p + 4 ≤ 550) (h18 : 4 ≤ p) (h : shRc T p m) : shRc T' p m := by
  unfold shRc at h ⊢
  rw [(e.1 p (by omega)).1, (e.1 (p + 1) (by omega)).1, (e.1 (p + 2) (by omega)).1, (e.1 (p + 3) (by omega)).1, (e.1 (p + 1) (by omega)).2, (e.1 (p + 2) (by omega)).2, (e.1 (p + 3) (by omega)).2, e.2 p 0 (by omega) (by omega), e.2 p 1 (by omega) (by omega), e.2 p 2 (by omega) (by omega)]
  exact h
theorem Et.ky {p : Nat} (e : Et T T') (hp : p + 3 ≤ 550) (h18 : 4 ≤ p) (h : shKy T p) : shKy T' p := by
  unfold shKy at h ⊢
  rw [(e.1 p (by omega)).1, (e.1 (p + 1) (by omega)).1, (e.1 (p + 2) (by omega)).1, (e.1 (p + 1) (by omega)).2, (e.1 (p + 2) (by omega)).2, e.2 p 0 (by omega) (by omega), e.2 p 1 (by omega) (by omega)]
  exact h
theorem Et.ch {p : Nat} (e : Et T T') (hp : p + 6 ≤ 550) (h18 : 4 ≤ p) (h : shCh T p) : shCh T' p := by
  obtain ⟨h1, h2, h3, h4, h5, h6, h7, h8, h9⟩ := h
  refine ⟨?_, ?_, ?_, ?_, ?_, ?_, ?_, h8, e.rc (by omega) (by omega) h9⟩
  · rw [(e.1 p (by omega)).1]; exact h1
  · rw [e.2 p 0 (by omega) (by omega)]; exact h2
  · rw [e.2 p 1 (by omega) (by omega)]; exact h3
  · rw [e.2 p 2 (by omega) (by omega)]; exact h4
  · rw [(e.1 (p + 5) (by omega)).1]; exact h5
  · rw [(e.1 (p + 5) (by omega)).2]; exact h6
  · rw [(e.1 11 (by omega)).1]; exact h7
theorem Et.op {p : Nat} (e : Et T T') (hp : p + 33 ≤ 550) (h20 : 20 ≤ p) (h : shOp T p) : shOp T' p := by
  obtain ⟨h1, h2, h3, h4, h5, h6, h7, h8, h9, h10, h11, h12, h13, h14, h15, h16⟩ := h
  refine ⟨?_, ?_, ?_, ?_, fun i hi => ?_, ?_, ?_, ?_, ?_, ?_, e.ky (by omega) (by omega) h11, e.ky (by omega) (by omega) h12, e.ky (by omega) (by omega) h13, e.ky (by omega) (by omega) h14, e.rc (by omega) (by omega) h15, fun i hi => ?_⟩
  · rw [(e.1 p (by omega)).1]; exact h1
  · rw [e.2 p 0 (by omega) (by omega)]; exact h2
  · rw [(e.1 (p + 1) (by omega)).1]; exact h3
  · rw [(e.1 (p + 1) (by omega)).2]; exact h4
  · rw [e.2 (p + 1) i (by omega) (by omega)]; exact h5 i hi
  · rw [e.2 p 1 (by omega) (by omega)]; exact h6
  · rw [e.2 p 2 (by omega) (by omega)]; exact h7
  · rw [e.2 p 3 (by omega) (by omega)]; exact h8
  · rw [e.2 p 4 (by omega) (by omega)]; exact h9
  · rw [e.2 p 5 (by omega) (by omega)]; exact h10
  · obtain ⟨k1, k2, k3⟩ := h16 i hi
    refine ⟨?_, ?_, e.rc (by omega) (by omega) k3⟩
    · rw [(e.1 (p + 18 + 5 * i) (by omega)).1]; exact k1
    · rw [e.2 (p + 18 + 5 * i) 0 (by omega) (by omega)]; exact k2
theorem Et.sm (e : Et T T') (h : shSm T) : shSm T' := by
  obtain ⟨h1, h2, h3, h4, h5, h6, h7, h8, h9, h10, h11, h12, h13, h14, h15, h16, h17⟩ := h
  refine ⟨?_, ?_, ?_, ?_, ?_, ?_, ?_, ?_, ?_, ?_, ?_, ?_, e.rc (by omega) (by omega) h13, fun o ho => ?_, fun c hc => ?_, fun o ho => e.op (by omega) (by omega) (h16 o ho), fun c hc => e.ch (by omega) (by omega) (h17 c hc)⟩
  · rw [(e.1 10 (by omega)).1]; exact h1
  · rw [e.2 10 0 (by omega) (by omega)]; exact h2
  · rw [e.2 10 1 (by omega) (by omega)]; exact h3
  · rw [e.2 10 2 (by omega) (by omega)]; exact h4
  · rw [e.2 10 3 (by omega) (by omega)]; exact h5
  · rw [e.2 10 4 (by omega) (by omega)]; exact h6
  · rw [(e.1 11 (by omega)).1]; exact h7
  · rw [(e.1 16 (by omega)).1]; exact h8
  · rw [(e.1 16 (by omega)).2]; exact h9
  · rw [(e.1 17 (by omega)).1]; exact h10
  · rw [(e.1 17 (by omega)).2]; exact h11
  · rw [(e.1 18 (by omega)).1]; exact h12
  · rw [e.2 16 o (by omega) (by omega)]; exact h14 o ho
  · rw [e.2 17 c (by omega) (by omega)]; exact h15 c hc
theorem Et_shX (e : Et T T') (h : shX T) : shX T' := by
  have k0 : ∀ a, a < 550 → tK T' a = tK T a := fun a ha => (e.1 a ha).1
  have l0 : ∀ a, a < 550 → tL T' a = tL T a := fun a ha => (e.1 a ha).2
  have r0 : ∀ a j, a < 550 → ¬ (a = 1 ∨ a = 3) → tR T' a j = tR T a j := fun a j ha h8 => e.2 a j ha h8
  unfold shX at h ⊢
  rw [k0 0 (by omega), k0 1 (by omega), k0 3 (by omega), k0 5 (by omega), k0 488 (by omega), k0 489 (by omega), k0 490 (by omega), k0 491 (by omega), l0 490 (by omega), l0 491 (by omega)]
  rw [r0 0 _ (by omega) (by omega), r0 0 _ (by omega) (by omega), r0 0 _ (by omega) (by omega), r0 0 _ (by omega) (by omega), r0 0 _ (by omega) (by omega), r0 0 _ (by omega) (by omega)]
  rw [r0 5 _ (by omega) (by omega), r0 5 _ (by omega) (by omega), r0 5 _ (by omega) (by omega), r0 5 _ (by omega) (by omega), r0 5 _ (by omega) (by omega)]
  rw [r0 488 _ (by omega) (by omega), r0 489 _ (by omega) (by omega), r0 489 _ (by omega) (by omega), r0 489 _ (by omega) (by omega)]
  refine ⟨h.1, h.2.1, h.2.2.1, h.2.2.2.1, h.2.2.2.2.1, h.2.2.2.2.2.1, h.2.2.2.2.2.2.1, h.2.2.2.2.2.2.2.1, h.2.2.2.2.2.2.2.2.1, h.2.2.2.2.2.2.2.2.2.1, h.2.2.2.2.2.2.2.2.2.2.1, h.2.2.2.2.2.2.2.2.2.2.2.1, h.2.2.2.2.2.2.2.2.2.2.2.2.1, h.2.2.2.2.2.2.2.2.2.2.2.2.2.1, h.2.2.2.2.2.2.2.2.2.2.2.2.2.2.1, fun a h1 h2 => ?_, h.2.2.2.2.2.2.2.2.2.2.2.2.2.2.2.2⟩
  rw [k0 a (by omega), l0 a (by omega)]
  exact h.2.2.2.2.2.2.2.2.2.2.2.2.2.2.2.1 a h1 h2
theorem Et_shM (e : Et T T') (h : shM T) : shM T' := by
  have key : ∀ f a kd len, a < 550 → shMr T f a kd len → shMr T' f a kd len := fun f a kd len ha h => by
    unfold shMr at h ⊢
    rw [(e.1 a (by omega)).1, (e.1 a (by omega)).2, e.2 492 f (by omega) (by omega)]
    exact h
  have k0 : tK T' 492 = tK T 492 := (e.1 492 (by omega)).1
  unfold shM at h ⊢
  rw [k0]
  refine ⟨h.1, ?_⟩
  have h2 := h.2
  repeat' first
    | exact key _ _ _ _ (by omega) h2
    | (refine ⟨key _ _ _ _ (by omega) h2.1, ?_⟩; replace h2 := h2.2)
theorem Gr_Et {p : Nat} (hp : p = 1 ∨ p = 3) (hn : 550 ≤ tN T) (h : Gr p I T I' T') : Et T T' := ⟨fun a ha => h.1 a (by omega), fun a j ha hb => h.2.1 a j ha (fun z => hb (by omega))⟩
theorem Gr_rf {p : Nat} : Gr p I T I T := ⟨fun _ _ => ⟨rfl, rfl⟩, fun _ _ _ _ => rfl, Nat.le_refl _, rfl, fun _ _ => rfl, id, fun _ h => Or.inl h, fun _ _ _ _ => rfl⟩
theorem Gr_tr {p : Nat} {I1 I2 : Iw} {T1 T2 : Tl} (h1 : Gr p I T I1 T1) (h2 : Gr p I1 T1 I2 T2) : Gr p I T I2 T2 := by
  obtain ⟨a1, a2, a3, a4, a5, a6, a7, a8⟩ := h1
  obtain ⟨b1, b2, b3, b4, b5, b6, b7, b8⟩ := h2
  refine ⟨fun a ha => ?_, fun a j ha hb => (b2 a j ha hb).trans (a2 a j ha hb), Nat.le_trans a3 b3, b4.trans a4, fun a ha => (b5 a (by omega)).trans (a5 a ha), fun h => b6 (a6 h), fun b hb => ?_, fun a ha hp ht => ?_⟩
  · obtain ⟨c1, c2⟩ := a1 a ha
    obtain ⟨d1, d2⟩ := b1 a (by omega)
    exact ⟨d1.trans c1, d2.trans c2⟩
  · rcases b7 b hb with h | h
    · exact a7 b h
    · exact Or.inr (by omega)
  · rw [b8 a (by omega) hp (fun z => by
      rcases a7 a z with h | h
      · exact ht h
      · omega), a8 a ha hp ht]
/-- a row of the text itself, or its array, written -/
theorem Gr_w {p tv j : Nat} {v : Int32} (ht : tR T p 0 = some tv) {a : Nat} (ha : a = p ∨ a = tv) : Gr p I T (u2 I a j v) T := ⟨fun _ _ => ⟨rfl, rfl⟩, fun _ _ _ _ => rfl, Nat.le_refl _, rfl, fun _ _ => rfl, id, fun _ h => Or.inl h, fun b _ h1 h2 => u2_ne (fun z => by
  rcases ha with h | h
  · exact h1 (z.trans h)
  · exact h2 (by rw [ht, z, h]))⟩
theorem shl0 (x : Int32) : x <<< (nI 0 &&& (31 : Int32)) = x := by
  rw [show (nI 0 &&& (31 : Int32)) = 0 by decide, Int32.shiftLeft_zero]
theorem nI_subI {a b : Nat} (ha : a < 2 ^ 30) (hb : b < 2 ^ 30) : (nI a - nI b).toInt = (a : Int) - b := by
  rw [Int32.toInt_sub, nI_toInt (by omega), nI_toInt (by omega), Int.bmod_def]
  split <;> omega
theorem byte128 : ∀ c : Fin 128, vp_nar .byte (nI c.val) = nI c.val := by decide +kernel
theorem sBb_t {α : Type} {a n c : Nat} {k : Mem → Option α} (h : tK T a = 101) (hn : n < tL T a) (h31 : n < 2 ^ 31) (hc : c < 128) : sB ((I, T) : Mem) a (nI n) (nI c) k = k ((u2 I a n (nI c), T) : Mem) := by
  refine (if_pos (inR_n hn h31)).trans ((if_pos h).trans ?_)
  rw [nI_clamp h31, byte128 ⟨c, hc⟩]
  rfl
theorem sb_ens {p need : Nat} {l : List Int32} (hp : p = 1 ∨ p = 3) (hk : tK T p = 14) (hn : 550 ≤ tN T) (h : SbC I T p l) (hR : RmP T) (hneed : need ≤ 100) (hnl : need ≤ l.length + 10) : ∃ I' T', f_ab_ensureCapacityInternal p (nI need) ((I, T) : Mem) = some ((I', T') : Mem) ∧ SbC I' T' p l ∧ (∃ tv, tR T' p 0 = some tv ∧ need ≤ tL T' tv) ∧ Gr p I T I' T' := by
  have hS := h
  obtain ⟨tv, h1, h2, h3, h4, h5, h6, h7, h8, h9, h10⟩ := h
  unfold f_ab_ensureCapacityInternal
  rw [gA_t hk, h1, onR_s, aN_t (by omega) (by omega), gI_t hk, h8, sh0]
  have hsub := nI_subI (a := need) (b := tL T tv) (by omega) (by omega)
  by_cases hz : need ≤ tL T tv
  · rw [if_pos (show nI need - nI (tL T tv) ≤ (0 : Int32) by
      rw [Int32.le_iff_toInt_le, hsub, show (0 : Int32).toInt = 0 from rfl]
      omega)]
    exact ⟨I, T, rfl, hS, ⟨tv, h1, hz⟩, Gr_rf⟩
  · rw [if_neg (show ¬ nI need - nI (tL T tv) ≤ (0 : Int32) from fun z => by
      rw [Int32.le_iff_toInt_le, hsub, show (0 : Int32).toInt = 0 from rfl] at z
      omega)]
    obtain ⟨m, hm⟩ : ∃ m, m = 2 * tL T tv + 2 := ⟨_, rfl⟩
    have ecap : f_ab_newCapacity p (nI need) ((I, T) : Mem) = some (nI m, ((I, T) : Mem)) := by
      have emax := ma_max (a := need - tL T tv) (b := tL T tv + 2) ((I, T) : Mem) (by omega) (by omega)
      rw [Nat.max_eq_right (by omega)] at emax
      have enl : f_as_newLength (nI (tL T tv)) (nI (need - tL T tv)) (nI (tL T tv + 2)) ((I, T) : Mem) = some (nI m, ((I, T) : Mem)) := by
        unfold f_as_newLength
        rw [emax, cI_x, nI_add, show tL T tv + (tL T tv + 2) = m by omega, if_neg (fun z => by have := (nI_leI (b := 0) (by omega) (by omega)).mp z; omega), if_neg (fun z => by have := (nI_ltI (a := 2147483639) (by omega) (by omega)).mp z; omega)]
      unfold f_ab_newCapacity
      rw [gA_t hk, h1, onR_s, aN_t (by omega) (by omega), gI_t hk, h8, gI_t hk, h8, shl0, shl0, pk_sub (by omega), show nI (tL T tv) + (2 : Int32) = nI (tL T tv + 2) from nI_add _ 2, enl, cI_x, if_neg (fun z => by have := (nI_eq (b := 2147483647) (by omega) (by omega)).mp z; omega), gI_t hk, h8, sh0]
    have k1 : tL (alT T 101 m) tv = tL T tv := u1_ne (by omega)
    have k2 : tL (alT T 101 m) (tN T) = m := u1_at rfl
    have k3 : tK (alT T 101 m) tv = 101 := (u1_ne (by omega)).trans h2
    have k4 : tK (alT T 101 m) (tN T) = 101 := u1_at rfl
    have k5 : tK (alT T 101 m) p = 14 := (u1_ne (by omega)).trans hk
    have e5 := ma_min (a := tL T tv) (b := m) ((r2 I (tN T) (fun _ => 0), alT T 101 m) : Mem) (by omega) (by omega)
    rw [Nat.min_eq_left (by omega)] at e5
    obtain ⟨I1, hI1⟩ : ∃ I1, I1 = r2 (r2 I (tN T) (fun _ => nI 0)) (tN T) (va_cpy (r2 I (tN T) (fun _ => nI 0) tv) (r2 I (tN T) (fun _ => nI 0) (tN T)) 0 0 (tL T tv)) := ⟨_, rfl⟩
    have e6 : f_ar_copyOf0 tv (nI m) ((I, T) : Mem) = some (some (tN T), ((I1, alT T 101 m) : Mem)) := by
      unfold f_ar_copyOf0
      rw [aN_t (by omega) (by omega), if_neg (fun z => by have := (nI_eq (by omega) (by omega)).mp z; omega), nA_t (by omega), aN_t (by rw [k3]; omega) (by rw [k3]; omega), k1, e5, cI_x, show (0 : Int32) = nI 0 from rfl, cpA_t (Or.inr k3) (by rw [k4, k3]) (by rw [k1]; omega) (by rw [k2]; omega) (by omega) (by omega) (by omega), ← hI1]
    have hoth : ∀ a, a ≠ tN T → I1 a = I a := fun a ha => by rw [hI1, r2_ne ha, r2_ne ha]
    have hrow : ∀ j (hj : j < l.length), I1 (tN T) j = l[j] := fun j hj => by
      rw [hI1, r2_at rfl]
      unfold va_cpy
      rw [if_pos (by omega), r2_ne (by omega), show 0 + (j - 0) = j by omega]
      exact h10 j hj
    have q1 : tR (seR (alT T 101 m) p 0 (tN T)) p 0 = some (tN T) := (show u2 (tR (alT T 101 m)) p 0 (some (tN T)) p 0 = some (tN T) from u2_at rfl rfl)
    have qR : ∀ a j, a < 550 → ¬ (a = p ∧ j = 0) → tR (seR (alT T 101 m) p 0 (tN T)) a j = tR T a j := fun a j ha hb => by
      show u2 (r2 (tR T) (tN T) (fun _ => none)) p 0 (some (tN T)) a j = tR T a j
      by_cases hz : a = p
      · rw [u2_nj hz (fun e => hb ⟨hz, e⟩), r2_ne (by omega)]
      · rw [u2_ne hz, r2_ne (by omega)]
    have qK : ∀ a, a < tN T → tK (seR (alT T 101 m) p 0 (tN T)) a = tK T a ∧ tL (seR (alT T 101 m) p 0 (tN T)) a = tL T a := fun a ha => ⟨u1_ne (by omega), u1_ne (by omega)⟩
    have qL : tL (seR (alT T 101 m) p 0 (tN T)) (tN T) = m := k2
    refine ⟨I1, seR (alT T 101 m) p 0 (tN T), ?_, ⟨tN T, q1, k4, Or.inr hn, Nat.lt_succ_self _, by rw [qL]; omega, by rw [qL]; omega, by rw [qL]; omega, by rw [hoth p (by omega)]; exact h8, by rw [hoth p (by omega)]; exact h9, hrow⟩, ⟨tN T, q1, by rw [qL]; omega⟩, qK, qR, Nat.le_succ _, rfl, fun a ha => r2_ne (by omega), fun hR => ?_, fun b hb => ?_, fun a ha hap hat => hoth a (by omega)⟩
    · rw [gA_t hk, h1, onR_s, ck_t hk, ecap, cI_x, gI_t hk, h8, shl0, e6, cR_x, onR_s, pR_t k5]
    · obtain ⟨⟨lv, t1, w1, r1, r2', r3, r4, r5, r6, r7⟩, hne, hlv⟩ := hR
      have hl := hlv lv r1
      have hN : tN (seR (alT T 101 m) p 0 (tN T)) = tN T + 1 := rfl
      have hSs : tS (seR (alT T 101 m) p 0 (tN T)) = tS T + m := rfl
      have l18 : tR (seR (alT T 101 m) p 0 (tN T)) 18 0 = some lv := by rw [qR 18 0 (by omega) (by omega)]; exact r1
      rcases hp with rfl | rfl
      · have e1 : t1 = tv := by rw [h1] at r2'; cases r2'; rfl
        subst e1
        have l3 : tR (seR (alT T 101 m) 1 0 (tN T)) 3 0 = some w1 := by rw [qR 3 0 (by omega) (by omega)]; exact r3
        refine ⟨⟨lv, tN T, w1, l18, q1, l3, ?_, ?_, by omega, by omega⟩, fun a b ha hb => ?_, fun lv' h' => ?_⟩
        · rw [hN, (qK lv hl).2, qL, (qK w1 r7).2]; omega
        · rw [hSs, (qK lv hl).2, qL, (qK w1 r7).2]; omega
        · rw [q1] at ha
          rw [l3] at hb
          cases ha
          cases hb
          omega
        · rw [l18] at h'
          cases h'
          omega
      · have e1 : w1 = tv := by rw [h1] at r3; cases r3; rfl
        subst e1
        have l3 : tR (seR (alT T 101 m) 3 0 (tN T)) 1 0 = some t1 := by rw [qR 1 0 (by omega) (by omega)]; exact r2'
        refine ⟨⟨lv, t1, tN T, l18, l3, q1, ?_, ?_, by omega, by omega⟩, fun a b ha hb => ?_, fun lv' h' => ?_⟩
        · rw [hN, (qK lv hl).2, qL, (qK t1 r6).2]; omega
        · rw [hSs, (qK lv hl).2, qL, (qK t1 r6).2]; omega
        · rw [l3] at ha
          rw [q1] at hb
          cases ha
          cases hb
          omega
        · rw [l18] at h'
          cases h'
          omega
    · rw [q1] at hb
      cases hb
      exact Or.inr (Nat.le_refl _)
theorem sb_app {p c : Nat} {l : List Int32} (hp : p = 1 ∨ p = 3) (hk : tK T p = 14) (hn : 550 ≤ tN T) (h : SbC I T p l) (hR : RmP T) (hl : l.length < 90) (hc : c < 128) : ∃ I' T', f_sb_append0 p (nI c) ((I, T) : Mem) = some (some p, ((I', T') : Mem)) ∧ SbC I' T' p (l ++ [nI c]) ∧ Gr p I T I' T' := by
  obtain ⟨I1, T1, e1, h1, ⟨tv, t1, t2⟩, g1⟩ := sb_ens hp hk hn h hR (need := l.length + 1) (by omega) (by omega)
  have h9 : I p 3 = nI l.length := by obtain ⟨tv', -, -, -, -, -, -, -, -, q, -⟩ := h; exact q
  obtain ⟨tv', u1, u2', u3, u4, u5, u6, u7, u8, u9, u10⟩ := h1
  have ev : tv' = tv := by rw [t1] at u1; cases u1; rfl
  subst ev
  have hk1 : tK T1 p = 14 := by rw [(g1.1 p (by omega)).1]; exact hk
  have hpt : p ≠ tv' := fun z => by rw [← z, hk1] at u2'; omega
  have hch := (ch128 ⟨c, hc⟩).2.2.1
  simp only at hch
  have hlen : (l ++ [nI c]).length = l.length + 1 := by rw [List.length_append]; rfl
  refine ⟨u2 (u2 I1 p 3 (nI (l.length + 1))) tv' l.length (nI c), T1, ?_, ⟨tv', u1, u2', u3, u4, by omega, u6, u7, ?_, ?_, fun j hj => ?_⟩, Gr_tr g1 (Gr_tr (Gr_w u1 (Or.inl rfl)) (Gr_w u1 (Or.inr rfl)))⟩
  · have elat : ∀ J : Iw, J p 1 = nI 0 → f_ab_isLatin1 p ((J, T1) : Mem) = some (1, ((J, T1) : Mem)) := fun J hJ => by
      unfold f_ab_isLatin1
      rw [gI_t hk1, hJ, if_pos (show nI 0 = (0 : Int32) from rfl)]
    have ecan : f_sl_canEncode0 (nI c) ((I1, T1) : Mem) = some (1, ((I1, T1) : Mem)) := by
      unfold f_sl_canEncode0
      rw [if_neg (fun z => by have := (nI_ltI (a := 255) (by omega) (by omega)).mp z; omega)]
    unfold f_sb_append0 f_ab_append0
    rw [ck_t hk, gI_t hk, h9, ck_t hk, show nI l.length + (1 : Int32) = nI (l.length + 1) from nI_1 _, e1, cV_x, ck_t hk1, elat I1 u8, cI_x, if_neg (show ¬ (1 : Int32) = 0 by decide), ecan, cI_x, if_neg (show ¬ (1 : Int32) = 0 by decide), gA_t hk1, u1, onR_s, gI_t hk1, u9, show nI l.length + (1 : Int32) = nI (l.length + 1) from nI_1 _, pI_t hk1, hch, sBb_t u2' (by omega) (by omega) hc, cR_x, onR_s]
  · rw [u2_ne hpt, u2_nj rfl (by omega)]; exact u8
  · rw [u2_ne hpt, hlen]; exact u2_at rfl rfl
  · by_cases hz : j = l.length
    · subst hz
      rw [u2_at rfl rfl]
      simp only [List.getElem_concat_length]
    · have hj2 : j < l.length := by omega
      rw [u2_nj rfl hz, u2_ne (fun z => hpt z.symm), List.getElem_append_left hj2]
      exact u10 j hj2
theorem CT_gr {p : Nat} (hp : p = 1 ∨ p = 3) (hn : 550 ≤ tN T) (hE : okE E) (h : CT E D g Q I T) (hR : RmP T) {l : List Int32} (hS : SbC I T p l) (G : Gr p I T I' T') : CT E D g Q I' T' := by
  obtain ⟨g1, g2, g3, g4, g5, g6, g7, g8⟩ := G
  obtain ⟨h1, h2, h3, h4, h5, h6, h7, h8, h9, ⟨lv, r1, r2', r3, r4, r5, r6, r7, r8, r9, r10⟩, h11⟩ := h
  obtain ⟨tv, t1, t2, t3, t4, -⟩ := hS
  have n4 := hE.1
  have f : ∀ a, 4 < a → a < 550 → I' a = I a := fun a ha ha2 => g8 a (by omega) (by omega) (fun z => by rw [t1] at z; cases z; omega)
  have flv : I' lv = I lv := g8 lv r4 (by omega) (fun z => by rw [t1] at z; cases z; omega)
  exact ⟨CfC_cg h1 n4 (by rw [f 10 (by omega) (by omega)]) (f 11 (by omega) (by omega)) (fun o ho j _ _ => by rw [f _ (by omega) (by omega)]), ChsC_cg h2 (fun a _ _ => f a (by omega) (by omega)), InsC_cg h3 (fun a _ _ _ => f a (by omega) (by omega)), KsC_cg h4 (fun a _ _ _ _ => f a (by omega) (by omega)), PeC_cg h5 (fun a _ _ _ _ => f a (by omega) (by omega)), PgC_cg hE h6 (fun o i ho hi => by rw [f _ (by omega) (by omega)]), StC_cg h7 (fun o ho j _ _ => by rw [f _ (by omega) (by omega)]), ScC_cg h8 (f 10 (by omega) (by omega)), NpC_cg h9 (fun a _ _ => f a (by omega) (by omega)), ⟨lv, by rw [g2 18 0 (by omega) (by omega)]; exact r1, by rw [(g1 lv r4).1]; exact r2', r3, Nat.lt_of_lt_of_le r4 g3, by rw [(g1 lv r4).2]; exact r5, by rw [(g1 lv r4).2]; exact r6, by rw [f 18 (by omega) (by omega)]; exact r7, by rw [f 18 (by omega) (by omega)]; exact r8, fun t ht => (by rw [flv]; exact r9 t (by rw [(g1 lv r4).2] at ht; exact ht)), fun t ht => r10 t (by rw [(g1 lv r4).2] at ht; exact ht)⟩, VsC_cg h11 (fun a _ _ _ _ => f a (by omega) (by omega)) (fun o i ho hi => by rw [f _ (by omega) (by omega)]) (by rw [f 10 (by omega) (by omega)]; exact ⟨rfl, rfl, rfl, rfl, rfl⟩)⟩
theorem SC_RmP (hC : SC S I T) : RmP T := by
  obtain ⟨-, -, -, hR, hE, ⟨g, hCT⟩, -⟩ := hC
  obtain ⟨lv, r1, -, -, r4, -⟩ := hCT.2.2.2.2.2.2.2.2.2.1
  exact ⟨hR, hE, fun lv' h' => by rw [r1] at h'; cases h'; exact r4⟩
/-- the class after a text has grown: the other text must still stand -/
theorem SC_gr {p : Nat} {l lt lw : List Int32} (hp : p = 1 ∨ p = 3) (h : SC S I T) (hE : okE (yE S)) (hS : SbC I T p l) (G : Gr p I T I' T') (h1 : SbC I' T' 1 lt) (h3 : SbC I' T' 3 lw) : SC (yE S, yD S, yQ S, lt, lw, yX S) I' T' ∧ KP I T I' T' := by
  have hR := SC_RmP h
  have hS0 := hS
  obtain ⟨q1, q2, q3, q4, q5, ⟨g, q6⟩, q7, q8, q9, q10, q11⟩ := h
  have e := Gr_Et hp q3 G
  have G' := G
  obtain ⟨g1, g2, g3, g4, g5, g6, g7, g8⟩ := G
  obtain ⟨tv, t1, t2, t3, t4, -⟩ := hS
  have f : ∀ a, 4 < a → a < 550 → I' a = I a := fun a ha ha2 => g8 a (by omega) (by omega) (fun z => by rw [t1] at z; cases z; omega)
  refine ⟨⟨e.sm q1, Et_shX e q2, Nat.le_trans q3 g3, (g6 hR).1, (g6 hR).2.1, ⟨g, CT_gr hp q3 hE q6 hR hS0 G'⟩, h1, h3, ?_, ?_, fun o ho => ?_⟩, fun a a1 a2 => f a (by omega) a2, g5 492 (by omega), fun h => Et_shM e h, g4⟩
  · show ExC I' (yX S)
    unfold ExC
    rw [f 489 (by omega) (by omega), f 490 (by omega) (by omega), f 491 (by omega) (by omega)]
    exact q9
  · exact PlC_cg (E' := yE S) q10 hE.1 rfl rfl rfl rfl rfl (f 488 (by omega) (by omega)) (fun o ho a g1 g2 => f a (by omega) (by omega))
  · obtain ⟨l, hl⟩ := q11 o ho
    exact ⟨l, Rng_cg hl (fun a g1 g2 => f a (by omega) (by omega))⟩
/-- the text that hasn't grown -/
theorem SbC_gr {p q : Nat} {l l' : List Int32} (hp : p ≠ q) (hq : q = 1 ∨ q = 3) (hp' : p = 1 ∨ p = 3) (hn : 550 ≤ tN T) (hR : RmP T) (h : SbC I T q l) (hS : SbC I T p l') (G : Gr p I T I' T') : SbC I' T' q l := by
  obtain ⟨g1, g2, g3, g4, g5, g6, g7, g8⟩ := G
  obtain ⟨tv, h1, h2, h3, h4, h5, h6, h7, h8, h9, h10⟩ := h
  obtain ⟨wv, t1, t2, t3, t4, -⟩ := hS
  have hne : tv ≠ wv := fun z => by
    rcases hp' with rfl | rfl
    · have e : q = 3 := by omega
      subst e
      exact hR.2.1 wv tv t1 h1 z.symm
    · have e : q = 1 := by omega
      subst e
      exact hR.2.1 tv wv h1 t1 z
  have fq : I' q = I q := g8 q (by omega) (fun z => hp z.symm) (fun z => by rw [t1] at z; cases z; omega)
  have ft : I' tv = I tv := g8 tv h4 (by omega) (fun z => by rw [t1] at z; cases z; exact hne rfl)
  exact ⟨tv, by rw [g2 q 0 (by omega) (fun z => hp z.1.symm)]; exact h1, by rw [(g1 tv h4).1]; exact h2, h3, Nat.lt_of_lt_of_le h4 g3, by rw [(g1 tv h4).2]; exact h5, by rw [(g1 tv h4).2]; exact h6, by rw [(g1 tv h4).2]; exact h7, by rw [fq]; exact h8, by rw [fq]; exact h9, fun j hj => by rw [ft]; exact h10 j hj⟩
end
