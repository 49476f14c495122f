/-! THE LAW'S LOOP: one call of both after the other -/
def Good (o : Option (Int32 × Mem)) : Prop := ∃ M, o = some (1, M) ∧ mn M ≤ 600000 ∧ ms M ≤ 7302250
def AL (X : Nat × (Nat → Int32)) (S : Sy) (I : Iw) (T : Tl) (k : Nat) : Prop := SC S I T ∧ SM S I T ∧ shM T ∧ PD S k ∧ tX T = X
section
variable {T T' : Tl} {I I' : Iw} {S S' : Sy} {k n i : Nat} {X : Nat × (Nat → Int32)}
theorem g_ite {c : Prop} [Decidable c] {x y : Option (Int32 × Mem)} (h1 : c → Good x) (h2 : ¬ c → Good y) : Good (if c then x else y) := by
  by_cases h : c
  · rw [if_pos h]; exact h1 h
  · rw [if_neg h]; exact h2 h
theorem sh_jm (h : JM T T') (sh : shM T) : shM T' := by
  obtain ⟨h1, -⟩ := h
  obtain ⟨j, t⟩ := T
  obtain ⟨j', t'⟩ := T'
  have h1' : t' = t := h1
  subst h1'
  exact sh
theorem AL_mid (hA : AL X S I T k) (K : KP I T I' T') : SM S I' T' ∧ shM T' ∧ tX T' = X := ⟨SM_kp hA.2.1 K, K.2.2.1 hA.2.2.1, K.2.2.2.trans hA.2.2.2.2⟩
theorem AL_end {I1 : Iw} {T1 : Tl} (hC : SC S' I1 T1) (sh : shM T1) (hx : tX T1 = X) (hP : PD S' k) (hM : SM S' I' T') (F : MF I1 T1 I' T') : AL X S' I' T' k := ⟨SC_mf hP.1.1 hC F, hM, sh_jm F.2 sh, hP, (congrArg (fun t => t.2.2.2.2.2) F.2.1).trans hx⟩
theorem AL_room (hA : AL X S I T k) : mn ((I, T) : Mem) ≤ 600000 ∧ ms ((I, T) : Mem) ≤ 7302250 := by
  obtain ⟨hS, -, -, -, -⟩ := hA
  obtain ⟨-, -, -, ⟨lv, tv, wv, r1, r2, r3, r4, r5, -, -⟩, -, ⟨g, hCT⟩, ⟨tv', t1, -, -, -, -, -, t2, -⟩, ⟨wv', w1, -, -, -, -, -, w2, -⟩, -⟩ := hS
  obtain ⟨lv', l1, l2⟩ := hCT.2.2.2.2.2.2.2.2.2.1
  rw [r1] at l1
  rw [r2] at t1
  rw [r3] at w1
  cases l1
  cases t1
  cases w1
  have hl : tL T lv ≤ 131072 := l2.2.2.2.2.1
  show tN T ≤ 600000 ∧ tS T ≤ 7302250
  omega
theorem aX_t {α : Type} {f : Int32 → Option α} (h : tX T = X) (hX : X.1 ≤ 2560) (hi : i < X.1) : aX ((I, T) : Mem) (nI i) f = f (X.2 i) := by
  have e : mX ((I, T) : Mem) = X := h
  unfold aX
  rw [e, if_pos (inR_n hi (by omega)), nI_clamp (by omega)]
theorem lw_0 {R : Mem → Option (Int32 × Mem)} (hX : X.1 ≤ 2560) (hi : i + 5 ≤ X.1) (hk : k + 1 ≤ 512) (hA : AL X S I T k) (hR : ∀ S' I' T', AL X S' I' T' (k + 1) → Good (R ((I', T') : Mem))) : Good (aX ((I, T) : Mem) (nI i + (1 : Int32)) fun v1 => aX ((I, T) : Mem) (nI i + (2 : Int32)) fun v2 => ck ((I, T) : Mem) 0 12 <| cI (f_x_append 0 v1 v2 ((I, T) : Mem)) fun v M1 => aX M1 (nI i + (1 : Int32)) fun w1 => aX M1 (nI i + (2 : Int32)) fun w2 => ck M1 492 13 <| cI (f_m_append 492 w1 w2 M1) fun w M2 => if v = w then R M2 else some ((0 : Int32), M2)) := by
  obtain ⟨hS, hM, hsh, hP, hx⟩ := id hA
  have hk0 : k ≤ 512 := Nat.le_of_lt hk
  have k0 : tK T 0 = 12 := hS.2.1.1
  obtain ⟨I1, T1, e1, C1, K1⟩ := x_append hS hP (X.2 (i + 1)) (X.2 (i + 2))
  obtain ⟨N1, s1, x1⟩ := AL_mid hA K1
  obtain ⟨I2, T2, e2, M2, F2⟩ := m_append s1 N1 hP (X.2 (i + 1)) (X.2 (i + 2))
  rw [show nI i + (1 : Int32) = nI (i + 1) from nI_1 _, show nI i + (2 : Int32) = nI (i + 2) from by rw [show (2 : Int32) = nI 2 from rfl, nI_add], aX_t hx hX (show i + 1 < X.1 by omega), aX_t hx hX (show i + 2 < X.1 by omega), ck_t k0, e1, cI_x, aX_t x1 hX (show i + 1 < X.1 by omega), aX_t x1 hX (show i + 2 < X.1 by omega), s1.ck, e2, cI_x, if_pos rfl]
  exact hR _ _ _ (AL_end C1 s1 x1 (PD_app hP (X.2 (i + 1)) (X.2 (i + 2))) M2 F2)
theorem lw_1 {R : Mem → Option (Int32 × Mem)} (hX : X.1 ≤ 2560) (hi : i + 5 ≤ X.1) (hk : k + 1 ≤ 512) (hA : AL X S I T k) (hR : ∀ S' I' T', AL X S' I' T' (k + 1) → Good (R ((I', T') : Mem))) : Good (ck ((I, T) : Mem) 0 12 <| cI (f_x_readPipeline 0 ((I, T) : Mem)) fun v M1 => ck M1 492 13 <| cI (f_m_readPipeline 492 M1) fun w M2 => if v = w then R M2 else some ((0 : Int32), M2)) := by
  obtain ⟨hS, hM, hsh, hP, hx⟩ := id hA
  have hk0 : k ≤ 512 := Nat.le_of_lt hk
  have k0 : tK T 0 = 12 := hS.2.1.1
  obtain ⟨I1, T1, e1, C1, K1⟩ := x_read hS hP
  obtain ⟨N1, s1, x1⟩ := AL_mid hA K1
  obtain ⟨I2, T2, e2, M2, F2⟩ := m_read s1 N1 hP
  rw [ck_t k0, e1, cI_x, s1.ck, e2, cI_x, if_pos rfl]
  exact hR _ _ _ (AL_end C1 s1 x1 (PD_read hP) M2 F2)
theorem lw_2 {R : Mem → Option (Int32 × Mem)} (hX : X.1 ≤ 2560) (hi : i + 5 ≤ X.1) (hk : k + 1 ≤ 512) (hA : AL X S I T k) (hR : ∀ S' I' T', AL X S' I' T' (k + 1) → Good (R ((I', T') : Mem))) : Good (aX ((I, T) : Mem) (nI i + (1 : Int32)) fun v1 => aX ((I, T) : Mem) (nI i + (2 : Int32)) fun v2 => aX ((I, T) : Mem) (nI i + (3 : Int32)) fun v3 => aX ((I, T) : Mem) (nI i + (4 : Int32)) fun v4 => ck ((I, T) : Mem) 0 12 <| cI (f_x_configure 0 v1 v2 v3 v4 ((I, T) : Mem)) fun v M1 => aX M1 (nI i + (1 : Int32)) fun w1 => aX M1 (nI i + (2 : Int32)) fun w2 => aX M1 (nI i + (3 : Int32)) fun w3 => aX M1 (nI i + (4 : Int32)) fun w4 => ck M1 492 13 <| cI (f_m_configure 492 w1 w2 w3 w4 M1) fun w M2 => if v = w then R M2 else some ((0 : Int32), M2)) := by
  obtain ⟨hS, hM, hsh, hP, hx⟩ := id hA
  have hk0 : k ≤ 512 := Nat.le_of_lt hk
  have k0 : tK T 0 = 12 := hS.2.1.1
  obtain ⟨I1, T1, e1, C1, K1⟩ := x_conf hS hP (X.2 (i + 1)) (X.2 (i + 2)) (X.2 (i + 3)) (X.2 (i + 4))
  obtain ⟨N1, s1, x1⟩ := AL_mid hA K1
  obtain ⟨I2, T2, e2, M2, F2⟩ := m_conf s1 N1 hP (X.2 (i + 1)) (X.2 (i + 2)) (X.2 (i + 3)) (X.2 (i + 4))
  rw [show nI i + (1 : Int32) = nI (i + 1) from nI_1 _, show nI i + (2 : Int32) = nI (i + 2) from by rw [show (2 : Int32) = nI 2 from rfl, nI_add], show nI i + (3 : Int32) = nI (i + 3) from by rw [show (3 : Int32) = nI 3 from rfl, nI_add], show nI i + (4 : Int32) = nI (i + 4) from by rw [show (4 : Int32) = nI 4 from rfl, nI_add], aX_t hx hX (show i + 1 < X.1 by omega), aX_t hx hX (show i + 2 < X.1 by omega), aX_t hx hX (show i + 3 < X.1 by omega), aX_t hx hX (show i + 4 < X.1 by omega), ck_t k0, e1, cI_x, aX_t x1 hX (show i + 1 < X.1 by omega), aX_t x1 hX (show i + 2 < X.1 by omega), aX_t x1 hX (show i + 3 < X.1 by omega), aX_t x1 hX (show i + 4 < X.1 by omega), s1.ck, e2, cI_x, if_pos rfl]
  exact hR _ _ _ (AL_end C1 s1 x1 (PD_conf hP (X.2 (i + 1)) (X.2 (i + 2)) (X.2 (i + 3)) (X.2 (i + 4))) M2 F2)
theorem lw_3 {R : Mem → Option (Int32 × Mem)} (hX : X.1 ≤ 2560) (hi : i + 5 ≤ X.1) (hk : k + 1 ≤ 512) (hA : AL X S I T k) (hR : ∀ S' I' T', AL X S' I' T' (k + 1) → Good (R ((I', T') : Mem))) : Good (aX ((I, T) : Mem) (nI i + (1 : Int32)) fun v1 => aX ((I, T) : Mem) (nI i + (2 : Int32)) fun v2 => ck ((I, T) : Mem) 0 12 <| cI (f_x_push 0 v1 v2 ((I, T) : Mem)) fun v M1 => aX M1 (nI i + (1 : Int32)) fun w1 => aX M1 (nI i + (2 : Int32)) fun w2 => ck M1 492 13 <| cI (f_m_push 492 w1 w2 M1) fun w M2 => if v = w then R M2 else some ((0 : Int32), M2)) := by
  obtain ⟨hS, hM, hsh, hP, hx⟩ := id hA
  have hk0 : k ≤ 512 := Nat.le_of_lt hk
  have k0 : tK T 0 = 12 := hS.2.1.1
  obtain ⟨I1, T1, e1, C1, K1⟩ := x_push hS hP (X.2 (i + 1)) (X.2 (i + 2))
  obtain ⟨N1, s1, x1⟩ := AL_mid hA K1
  obtain ⟨I2, T2, e2, M2, F2⟩ := m_push s1 N1 hP (X.2 (i + 1)) (X.2 (i + 2))
  rw [show nI i + (1 : Int32) = nI (i + 1) from nI_1 _, show nI i + (2 : Int32) = nI (i + 2) from by rw [show (2 : Int32) = nI 2 from rfl, nI_add], aX_t hx hX (show i + 1 < X.1 by omega), aX_t hx hX (show i + 2 < X.1 by omega), ck_t k0, e1, cI_x, aX_t x1 hX (show i + 1 < X.1 by omega), aX_t x1 hX (show i + 2 < X.1 by omega), s1.ck, e2, cI_x, if_pos rfl]
  exact hR _ _ _ (AL_end C1 s1 x1 (PD_push hP (X.2 (i + 1)) (X.2 (i + 2))) M2 F2)
theorem lw_4 {R : Mem → Option (Int32 × Mem)} (hX : X.1 ≤ 2560) (hi : i + 5 ≤ X.1) (hk : k + 1 ≤ 512) (hA : AL X S I T k) (hR : ∀ S' I' T', AL X S' I' T' (k + 1) → Good (R ((I', T') : Mem))) : Good (aX ((I, T) : Mem) (nI i + (1 : Int32)) fun v1 => ck ((I, T) : Mem) 0 12 <| cI (f_x_tick 0 v1 ((I, T) : Mem)) fun v M1 => aX M1 (nI i + (1 : Int32)) fun w1 => ck M1 492 13 <| cI (f_m_tick 492 w1 M1) fun w M2 => if v = w then R M2 else some ((0 : Int32), M2)) := by
  obtain ⟨hS, hM, hsh, hP, hx⟩ := id hA
  have hk0 : k ≤ 512 := Nat.le_of_lt hk
  have k0 : tK T 0 = 12 := hS.2.1.1
  obtain ⟨I1, T1, e1, C1, K1⟩ := x_tick hS hP hk (X.2 (i + 1))
  obtain ⟨N1, s1, x1⟩ := AL_mid hA K1
  obtain ⟨I2, T2, e2, M2, F2⟩ := m_tick s1 N1 hP hk (X.2 (i + 1))
  rw [show nI i + (1 : Int32) = nI (i + 1) from nI_1 _, aX_t hx hX (show i + 1 < X.1 by omega), ck_t k0, e1, cI_x, aX_t x1 hX (show i + 1 < X.1 by omega), s1.ck, e2, cI_x, if_pos rfl]
  exact hR _ _ _ (AL_end C1 s1 x1 (PD_yTick hP hk (X.2 (i + 1))) M2 F2)
theorem lw_5 {R : Mem → Option (Int32 × Mem)} (hX : X.1 ≤ 2560) (hi : i + 5 ≤ X.1) (hk : k + 1 ≤ 512) (hA : AL X S I T k) (hR : ∀ S' I' T', AL X S' I' T' (k + 1) → Good (R ((I', T') : Mem))) : Good (ck ((I, T) : Mem) 0 12 <| cI (f_x_isQuiet 0 ((I, T) : Mem)) fun v M1 => ck M1 492 13 <| cI (f_m_isQuiet 492 M1) fun w M2 => if v = w then R M2 else some ((0 : Int32), M2)) := by
  obtain ⟨hS, hM, hsh, hP, hx⟩ := id hA
  have hk0 : k ≤ 512 := Nat.le_of_lt hk
  have k0 : tK T 0 = 12 := hS.2.1.1
  rw [ck_t k0, x_isQuiet hS hP hk0, cI_x, hsh.ck, m_isQuiet hsh hM hP hk0, cI_x, if_pos rfl]
  exact hR _ _ _ ⟨hS, hM, hsh, PD_mono hP (by omega), hx⟩
theorem lw_6 {R : Mem → Option (Int32 × Mem)} (hX : X.1 ≤ 2560) (hi : i + 5 ≤ X.1) (hk : k + 1 ≤ 512) (hA : AL X S I T k) (hR : ∀ S' I' T', AL X S' I' T' (k + 1) → Good (R ((I', T') : Mem))) : Good (ck ((I, T) : Mem) 0 12 <| cI (f_x_checkpoint 0 ((I, T) : Mem)) fun v M1 => ck M1 492 13 <| cI (f_m_checkpoint 492 M1) fun w M2 => if v = w then R M2 else some ((0 : Int32), M2)) := by
  obtain ⟨hS, hM, hsh, hP, hx⟩ := id hA
  have hk0 : k ≤ 512 := Nat.le_of_lt hk
  have k0 : tK T 0 = 12 := hS.2.1.1
  obtain ⟨I1, T1, e1, C1, K1⟩ := x_chk hS hP hk0
  obtain ⟨N1, s1, x1⟩ := AL_mid hA K1
  obtain ⟨I2, T2, e2, M2, F2⟩ := m_chk s1 N1 hP hk0
  rw [ck_t k0, e1, cI_x, s1.ck, e2, cI_x, if_pos rfl]
  exact hR _ _ _ (AL_end C1 s1 x1 (PD_chk hP) M2 F2)
theorem lw_7 {R : Mem → Option (Int32 × Mem)} (hX : X.1 ≤ 2560) (hi : i + 5 ≤ X.1) (hk : k + 1 ≤ 512) (hA : AL X S I T k) (hR : ∀ S' I' T', AL X S' I' T' (k + 1) → Good (R ((I', T') : Mem))) : Good (ck ((I, T) : Mem) 0 12 <| cI (f_x_fail 0 ((I, T) : Mem)) fun v M1 => ck M1 492 13 <| cI (f_m_fail 492 M1) fun w M2 => if v = w then R M2 else some ((0 : Int32), M2)) := by
  obtain ⟨hS, hM, hsh, hP, hx⟩ := id hA
  have hk0 : k ≤ 512 := Nat.le_of_lt hk
  have k0 : tK T 0 = 12 := hS.2.1.1
  obtain ⟨I1, T1, e1, C1, K1⟩ := x_fail hS hP
  obtain ⟨N1, s1, x1⟩ := AL_mid hA K1
  obtain ⟨I2, T2, e2, M2, F2⟩ := m_fail s1 N1
  rw [ck_t k0, e1, cI_x, s1.ck, e2, cI_x, if_pos rfl]
  exact hR _ _ _ (AL_end C1 s1 x1 (PD_fail hP) M2 F2)
theorem lw_8 {R : Mem → Option (Int32 × Mem)} (hX : X.1 ≤ 2560) (hi : i + 5 ≤ X.1) (hk : k + 1 ≤ 512) (hA : AL X S I T k) (hR : ∀ S' I' T', AL X S' I' T' (k + 1) → Good (R ((I', T') : Mem))) : Good (aX ((I, T) : Mem) (nI i + (1 : Int32)) fun v1 => aX ((I, T) : Mem) (nI i + (2 : Int32)) fun v2 => ck ((I, T) : Mem) 0 12 <| cI (f_x_rescale 0 v1 v2 ((I, T) : Mem)) fun v M1 => aX M1 (nI i + (1 : Int32)) fun w1 => aX M1 (nI i + (2 : Int32)) fun w2 => ck M1 492 13 <| cI (f_m_rescale 492 w1 w2 M1) fun w M2 => if v = w then R M2 else some ((0 : Int32), M2)) := by
  obtain ⟨hS, hM, hsh, hP, hx⟩ := id hA
  have hk0 : k ≤ 512 := Nat.le_of_lt hk
  have k0 : tK T 0 = 12 := hS.2.1.1
  obtain ⟨I1, T1, e1, C1, K1⟩ := x_resc hS hP (X.2 (i + 1)) (X.2 (i + 2))
  obtain ⟨N1, s1, x1⟩ := AL_mid hA K1
  obtain ⟨I2, T2, e2, M2, F2⟩ := m_resc s1 N1 hP (X.2 (i + 1)) (X.2 (i + 2))
  rw [show nI i + (1 : Int32) = nI (i + 1) from nI_1 _, show nI i + (2 : Int32) = nI (i + 2) from by rw [show (2 : Int32) = nI 2 from rfl, nI_add], aX_t hx hX (show i + 1 < X.1 by omega), aX_t hx hX (show i + 2 < X.1 by omega), ck_t k0, e1, cI_x, aX_t x1 hX (show i + 1 < X.1 by omega), aX_t x1 hX (show i + 2 < X.1 by omega), s1.ck, e2, cI_x, if_pos rfl]
  exact hR _ _ _ (AL_end C1 s1 x1 (PD_resc hP (X.2 (i + 1)) (X.2 (i + 2))) M2 F2)
theorem lw_9 {R : Mem → Option (Int32 × Mem)} (hX : X.1 ≤ 2560) (hi : i + 5 ≤ X.1) (hk : k + 1 ≤ 512) (hA : AL X S I T k) (hR : ∀ S' I' T', AL X S' I' T' (k + 1) → Good (R ((I', T') : Mem))) : Good (aX ((I, T) : Mem) (nI i + (1 : Int32)) fun v1 => ck ((I, T) : Mem) 0 12 <| cI (f_x_count 0 v1 ((I, T) : Mem)) fun v M1 => aX M1 (nI i + (1 : Int32)) fun w1 => ck M1 492 13 <| cI (f_m_count 492 w1 M1) fun w M2 => if v = w then R M2 else some ((0 : Int32), M2)) := by
  obtain ⟨hS, hM, hsh, hP, hx⟩ := id hA
  have hk0 : k ≤ 512 := Nat.le_of_lt hk
  have k0 : tK T 0 = 12 := hS.2.1.1
  obtain ⟨v, e1, e2⟩ := rd_count hS hsh hM hP (X.2 (i + 1))
  rw [show nI i + (1 : Int32) = nI (i + 1) from nI_1 _, aX_t hx hX (show i + 1 < X.1 by omega), ck_t k0, e1, cI_x, aX_t hx hX (show i + 1 < X.1 by omega), hsh.ck, e2, cI_x, if_pos rfl]
  exact hR _ _ _ ⟨hS, hM, hsh, PD_mono hP (by omega), hx⟩
theorem lw_10 {R : Mem → Option (Int32 × Mem)} (hX : X.1 ≤ 2560) (hi : i + 5 ≤ X.1) (hk : k + 1 ≤ 512) (hA : AL X S I T k) (hR : ∀ S' I' T', AL X S' I' T' (k + 1) → Good (R ((I', T') : Mem))) : Good (aX ((I, T) : Mem) (nI i + (1 : Int32)) fun v1 => aX ((I, T) : Mem) (nI i + (2 : Int32)) fun v2 => ck ((I, T) : Mem) 0 12 <| cI (f_x_operator 0 v1 v2 ((I, T) : Mem)) fun v M1 => aX M1 (nI i + (1 : Int32)) fun w1 => aX M1 (nI i + (2 : Int32)) fun w2 => ck M1 492 13 <| cI (f_m_operator 492 w1 w2 M1) fun w M2 => if v = w then R M2 else some ((0 : Int32), M2)) := by
  obtain ⟨hS, hM, hsh, hP, hx⟩ := id hA
  have hk0 : k ≤ 512 := Nat.le_of_lt hk
  have k0 : tK T 0 = 12 := hS.2.1.1
  obtain ⟨v, e1, e2⟩ := rd_operator hS hsh hM hP (X.2 (i + 1)) (X.2 (i + 2))
  rw [show nI i + (1 : Int32) = nI (i + 1) from nI_1 _, show nI i + (2 : Int32) = nI (i + 2) from by rw [show (2 : Int32) = nI 2 from rfl, nI_add], aX_t hx hX (show i + 1 < X.1 by omega), aX_t hx hX (show i + 2 < X.1 by omega), ck_t k0, e1, cI_x, aX_t hx hX (show i + 1 < X.1 by omega), aX_t hx hX (show i + 2 < X.1 by omega), hsh.ck, e2, cI_x, if_pos rfl]
  exact hR _ _ _ ⟨hS, hM, hsh, PD_mono hP (by omega), hx⟩
theorem lw_11 {R : Mem → Option (Int32 × Mem)} (hX : X.1 ≤ 2560) (hi : i + 5 ≤ X.1) (hk : k + 1 ≤ 512) (hA : AL X S I T k) (hR : ∀ S' I' T', AL X S' I' T' (k + 1) → Good (R ((I', T') : Mem))) : Good (aX ((I, T) : Mem) (nI i + (1 : Int32)) fun v1 => aX ((I, T) : Mem) (nI i + (2 : Int32)) fun v2 => aX ((I, T) : Mem) (nI i + (3 : Int32)) fun v3 => ck ((I, T) : Mem) 0 12 <| cI (f_x_instance 0 v1 v2 v3 ((I, T) : Mem)) fun v M1 => aX M1 (nI i + (1 : Int32)) fun w1 => aX M1 (nI i + (2 : Int32)) fun w2 => aX M1 (nI i + (3 : Int32)) fun w3 => ck M1 492 13 <| cI (f_m_instance 492 w1 w2 w3 M1) fun w M2 => if v = w then R M2 else some ((0 : Int32), M2)) := by
  obtain ⟨hS, hM, hsh, hP, hx⟩ := id hA
  have hk0 : k ≤ 512 := Nat.le_of_lt hk
  have k0 : tK T 0 = 12 := hS.2.1.1
  obtain ⟨v, e1, e2⟩ := rd_instance hS hsh hM hP (X.2 (i + 1)) (X.2 (i + 2)) (X.2 (i + 3))
  rw [show nI i + (1 : Int32) = nI (i + 1) from nI_1 _, show nI i + (2 : Int32) = nI (i + 2) from by rw [show (2 : Int32) = nI 2 from rfl, nI_add], show nI i + (3 : Int32) = nI (i + 3) from by rw [show (3 : Int32) = nI 3 from rfl, nI_add], aX_t hx hX (show i + 1 < X.1 by omega), aX_t hx hX (show i + 2 < X.1 by omega), aX_t hx hX (show i + 3 < X.1 by omega), ck_t k0, e1, cI_x, aX_t hx hX (show i + 1 < X.1 by omega), aX_t hx hX (show i + 2 < X.1 by omega), aX_t hx hX (show i + 3 < X.1 by omega), hsh.ck, e2, cI_x, if_pos rfl]
  exact hR _ _ _ ⟨hS, hM, hsh, PD_mono hP (by omega), hx⟩
theorem lw_12 {R : Mem → Option (Int32 × Mem)} (hX : X.1 ≤ 2560) (hi : i + 5 ≤ X.1) (hk : k + 1 ≤ 512) (hA : AL X S I T k) (hR : ∀ S' I' T', AL X S' I' T' (k + 1) → Good (R ((I', T') : Mem))) : Good (aX ((I, T) : Mem) (nI i + (1 : Int32)) fun v1 => aX ((I, T) : Mem) (nI i + (2 : Int32)) fun v2 => aX ((I, T) : Mem) (nI i + (3 : Int32)) fun v3 => aX ((I, T) : Mem) (nI i + (4 : Int32)) fun v4 => ck ((I, T) : Mem) 0 12 <| cI (f_x_channel 0 v1 v2 v3 v4 ((I, T) : Mem)) fun v M1 => aX M1 (nI i + (1 : Int32)) fun w1 => aX M1 (nI i + (2 : Int32)) fun w2 => aX M1 (nI i + (3 : Int32)) fun w3 => aX M1 (nI i + (4 : Int32)) fun w4 => ck M1 492 13 <| cI (f_m_channel 492 w1 w2 w3 w4 M1) fun w M2 => if v = w then R M2 else some ((0 : Int32), M2)) := by
  obtain ⟨hS, hM, hsh, hP, hx⟩ := id hA
  have hk0 : k ≤ 512 := Nat.le_of_lt hk
  have k0 : tK T 0 = 12 := hS.2.1.1
  obtain ⟨v, e1, e2⟩ := rd_channel hS hsh hM hP (X.2 (i + 1)) (X.2 (i + 2)) (X.2 (i + 3)) (X.2 (i + 4))
  rw [show nI i + (1 : Int32) = nI (i + 1) from nI_1 _, show nI i + (2 : Int32) = nI (i + 2) from by rw [show (2 : Int32) = nI 2 from rfl, nI_add], show nI i + (3 : Int32) = nI (i + 3) from by rw [show (3 : Int32) = nI 3 from rfl, nI_add], show nI i + (4 : Int32) = nI (i + 4) from by rw [show (4 : Int32) = nI 4 from rfl, nI_add], aX_t hx hX (show i + 1 < X.1 by omega), aX_t hx hX (show i + 2 < X.1 by omega), aX_t hx hX (show i + 3 < X.1 by omega), aX_t hx hX (show i + 4 < X.1 by omega), ck_t k0, e1, cI_x, aX_t hx hX (show i + 1 < X.1 by omega), aX_t hx hX (show i + 2 < X.1 by omega), aX_t hx hX (show i + 3 < X.1 by omega), aX_t hx hX (show i + 4 < X.1 by omega), hsh.ck, e2, cI_x, if_pos rfl]
  exact hR _ _ _ ⟨hS, hM, hsh, PD_mono hP (by omega), hx⟩
theorem lw_13 {R : Mem → Option (Int32 × Mem)} (hX : X.1 ≤ 2560) (hi : i + 5 ≤ X.1) (hk : k + 1 ≤ 512) (hA : AL X S I T k) (hR : ∀ S' I' T', AL X S' I' T' (k + 1) → Good (R ((I', T') : Mem))) : Good (aX ((I, T) : Mem) (nI i + (1 : Int32)) fun v1 => aX ((I, T) : Mem) (nI i + (2 : Int32)) fun v2 => aX ((I, T) : Mem) (nI i + (3 : Int32)) fun v3 => ck ((I, T) : Mem) 0 12 <| cI (f_x_state 0 v1 v2 v3 ((I, T) : Mem)) fun v M1 => aX M1 (nI i + (1 : Int32)) fun w1 => aX M1 (nI i + (2 : Int32)) fun w2 => aX M1 (nI i + (3 : Int32)) fun w3 => ck M1 492 13 <| cI (f_m_state 492 w1 w2 w3 M1) fun w M2 => if v = w then R M2 else some ((0 : Int32), M2)) := by
  obtain ⟨hS, hM, hsh, hP, hx⟩ := id hA
  have hk0 : k ≤ 512 := Nat.le_of_lt hk
  have k0 : tK T 0 = 12 := hS.2.1.1
  obtain ⟨v, e1, e2⟩ := rd_state hS hsh hM hP (X.2 (i + 1)) (X.2 (i + 2)) (X.2 (i + 3))
  rw [show nI i + (1 : Int32) = nI (i + 1) from nI_1 _, show nI i + (2 : Int32) = nI (i + 2) from by rw [show (2 : Int32) = nI 2 from rfl, nI_add], show nI i + (3 : Int32) = nI (i + 3) from by rw [show (3 : Int32) = nI 3 from rfl, nI_add], aX_t hx hX (show i + 1 < X.1 by omega), aX_t hx hX (show i + 2 < X.1 by omega), aX_t hx hX (show i + 3 < X.1 by omega), ck_t k0, e1, cI_x, aX_t hx hX (show i + 1 < X.1 by omega), aX_t hx hX (show i + 2 < X.1 by omega), aX_t hx hX (show i + 3 < X.1 by omega), hsh.ck, e2, cI_x, if_pos rfl]
  exact hR _ _ _ ⟨hS, hM, hsh, PD_mono hP (by omega), hx⟩
theorem lw_14 {R : Mem → Option (Int32 × Mem)} (hX : X.1 ≤ 2560) (hi : i + 5 ≤ X.1) (hk : k + 1 ≤ 512) (hA : AL X S I T k) (hR : ∀ S' I' T', AL X S' I' T' (k + 1) → Good (R ((I', T') : Mem))) : Good (aX ((I, T) : Mem) (nI i + (1 : Int32)) fun v1 => aX ((I, T) : Mem) (nI i + (2 : Int32)) fun v2 => aX ((I, T) : Mem) (nI i + (3 : Int32)) fun v3 => ck ((I, T) : Mem) 0 12 <| cI (f_x_savedState 0 v1 v2 v3 ((I, T) : Mem)) fun v M1 => aX M1 (nI i + (1 : Int32)) fun w1 => aX M1 (nI i + (2 : Int32)) fun w2 => aX M1 (nI i + (3 : Int32)) fun w3 => ck M1 492 13 <| cI (f_m_savedState 492 w1 w2 w3 M1) fun w M2 => if v = w then R M2 else some ((0 : Int32), M2)) := by
  obtain ⟨hS, hM, hsh, hP, hx⟩ := id hA
  have hk0 : k ≤ 512 := Nat.le_of_lt hk
  have k0 : tK T 0 = 12 := hS.2.1.1
  obtain ⟨v, e1, e2⟩ := rd_saved hS hsh hM hP (X.2 (i + 1)) (X.2 (i + 2)) (X.2 (i + 3))
  rw [show nI i + (1 : Int32) = nI (i + 1) from nI_1 _, show nI i + (2 : Int32) = nI (i + 2) from by rw [show (2 : Int32) = nI 2 from rfl, nI_add], show nI i + (3 : Int32) = nI (i + 3) from by rw [show (3 : Int32) = nI 3 from rfl, nI_add], aX_t hx hX (show i + 1 < X.1 by omega), aX_t hx hX (show i + 2 < X.1 by omega), aX_t hx hX (show i + 3 < X.1 by omega), ck_t k0, e1, cI_x, aX_t hx hX (show i + 1 < X.1 by omega), aX_t hx hX (show i + 2 < X.1 by omega), aX_t hx hX (show i + 3 < X.1 by omega), hsh.ck, e2, cI_x, if_pos rfl]
  exact hR _ _ _ ⟨hS, hM, hsh, PD_mono hP (by omega), hx⟩
theorem lw_15 {R : Mem → Option (Int32 × Mem)} (hX : X.1 ≤ 2560) (hi : i + 5 ≤ X.1) (hk : k + 1 ≤ 512) (hA : AL X S I T k) (hR : ∀ S' I' T', AL X S' I' T' (k + 1) → Good (R ((I', T') : Mem))) : Good (aX ((I, T) : Mem) (nI i + (1 : Int32)) fun v1 => ck ((I, T) : Mem) 0 12 <| cI (f_x_latency 0 v1 ((I, T) : Mem)) fun v M1 => aX M1 (nI i + (1 : Int32)) fun w1 => ck M1 492 13 <| cI (f_m_latency 492 w1 M1) fun w M2 => if v = w then R M2 else some ((0 : Int32), M2)) := by
  obtain ⟨hS, hM, hsh, hP, hx⟩ := id hA
  have hk0 : k ≤ 512 := Nat.le_of_lt hk
  have k0 : tK T 0 = 12 := hS.2.1.1
  obtain ⟨v, e1, e2⟩ := rd_latency hS hsh hM hP hk0 (X.2 (i + 1))
  rw [show nI i + (1 : Int32) = nI (i + 1) from nI_1 _, aX_t hx hX (show i + 1 < X.1 by omega), ck_t k0, e1, cI_x, aX_t hx hX (show i + 1 < X.1 by omega), hsh.ck, e2, cI_x, if_pos rfl]
  exact hR _ _ _ ⟨hS, hM, hsh, PD_mono hP (by omega), hx⟩
theorem lw_16 {R : Mem → Option (Int32 × Mem)} (hX : X.1 ≤ 2560) (hi : i + 5 ≤ X.1) (hk : k + 1 ≤ 512) (hA : AL X S I T k) (hR : ∀ S' I' T', AL X S' I' T' (k + 1) → Good (R ((I', T') : Mem))) : Good (aX ((I, T) : Mem) (nI i + (1 : Int32)) fun v1 => aX ((I, T) : Mem) (nI i + (2 : Int32)) fun v2 => ck ((I, T) : Mem) 0 12 <| cI (f_x_plain 0 v1 v2 ((I, T) : Mem)) fun v M1 => aX M1 (nI i + (1 : Int32)) fun w1 => aX M1 (nI i + (2 : Int32)) fun w2 => ck M1 492 13 <| cI (f_m_plain 492 w1 w2 M1) fun w M2 => if v = w then R M2 else some ((0 : Int32), M2)) := by
  obtain ⟨hS, hM, hsh, hP, hx⟩ := id hA
  have hk0 : k ≤ 512 := Nat.le_of_lt hk
  have k0 : tK T 0 = 12 := hS.2.1.1
  obtain ⟨I1, T1, e1, C1, K1⟩ := x_plain hS hP (X.2 (i + 1)) (X.2 (i + 2))
  obtain ⟨N1, s1, x1⟩ := AL_mid hA K1
  obtain ⟨I2, T2, e2, M2, F2⟩ := m_plain s1 N1 hP (X.2 (i + 1)) (X.2 (i + 2))
  rw [show nI i + (1 : Int32) = nI (i + 1) from nI_1 _, show nI i + (2 : Int32) = nI (i + 2) from by rw [show (2 : Int32) = nI 2 from rfl, nI_add], aX_t hx hX (show i + 1 < X.1 by omega), aX_t hx hX (show i + 2 < X.1 by omega), ck_t k0, e1, cI_x, aX_t x1 hX (show i + 1 < X.1 by omega), aX_t x1 hX (show i + 2 < X.1 by omega), s1.ck, e2, cI_x, if_pos rfl]
  exact hR _ _ _ (AL_end C1 s1 x1 (PD_mono hP (by omega)) M2 F2)
theorem lw_17 {R : Mem → Option (Int32 × Mem)} (hX : X.1 ≤ 2560) (hi : i + 5 ≤ X.1) (hk : k + 1 ≤ 512) (hA : AL X S I T k) (hR : ∀ S' I' T', AL X S' I' T' (k + 1) → Good (R ((I', T') : Mem))) : Good (aX ((I, T) : Mem) (nI i + (1 : Int32)) fun v1 => aX ((I, T) : Mem) (nI i + (2 : Int32)) fun v2 => ck ((I, T) : Mem) 0 12 <| cI (f_x_explain 0 v1 v2 ((I, T) : Mem)) fun v M1 => aX M1 (nI i + (1 : Int32)) fun w1 => aX M1 (nI i + (2 : Int32)) fun w2 => ck M1 492 13 <| cI (f_m_explain 492 w1 w2 M1) fun w M2 => if v = w then R M2 else some ((0 : Int32), M2)) := by
  obtain ⟨hS, hM, hsh, hP, hx⟩ := id hA
  have hk0 : k ≤ 512 := Nat.le_of_lt hk
  have k0 : tK T 0 = 12 := hS.2.1.1
  obtain ⟨I1, T1, e1, C1, K1⟩ := x_explain hS hP hk0 (X.2 (i + 1)) (X.2 (i + 2))
  obtain ⟨N1, s1, x1⟩ := AL_mid hA K1
  obtain ⟨I2, T2, e2, M2, F2⟩ := m_explain s1 N1 hP hk0 (X.2 (i + 1)) (X.2 (i + 2))
  rw [show nI i + (1 : Int32) = nI (i + 1) from nI_1 _, show nI i + (2 : Int32) = nI (i + 2) from by rw [show (2 : Int32) = nI 2 from rfl, nI_add], aX_t hx hX (show i + 1 < X.1 by omega), aX_t hx hX (show i + 2 < X.1 by omega), ck_t k0, e1, cI_x, aX_t x1 hX (show i + 1 < X.1 by omega), aX_t x1 hX (show i + 2 < X.1 by omega), s1.ck, e2, cI_x, if_pos rfl]
  exact hR _ _ _ (AL_end C1 s1 x1 (PD_expl hP (X.2 (i + 1)) (X.2 (i + 2))) M2 F2)
theorem lw_18 {R : Mem → Option (Int32 × Mem)} (hX : X.1 ≤ 2560) (hi : i + 5 ≤ X.1) (hk : k + 1 ≤ 512) (hA : AL X S I T k) (hR : ∀ S' I' T', AL X S' I' T' (k + 1) → Good (R ((I', T') : Mem))) : Good (aX ((I, T) : Mem) (nI i + (1 : Int32)) fun v1 => aX ((I, T) : Mem) (nI i + (2 : Int32)) fun v2 => ck ((I, T) : Mem) 0 12 <| cI (f_x_explanation 0 v1 v2 ((I, T) : Mem)) fun v M1 => aX M1 (nI i + (1 : Int32)) fun w1 => aX M1 (nI i + (2 : Int32)) fun w2 => ck M1 492 13 <| cI (f_m_explanation 492 w1 w2 M1) fun w M2 => if v = w then R M2 else some ((0 : Int32), M2)) := by
  obtain ⟨hS, hM, hsh, hP, hx⟩ := id hA
  have hk0 : k ≤ 512 := Nat.le_of_lt hk
  have k0 : tK T 0 = 12 := hS.2.1.1
  obtain ⟨v, e1, e2⟩ := rd_expl hS hsh hM hP (X.2 (i + 1)) (X.2 (i + 2))
  rw [show nI i + (1 : Int32) = nI (i + 1) from nI_1 _, show nI i + (2 : Int32) = nI (i + 2) from by rw [show (2 : Int32) = nI 2 from rfl, nI_add], aX_t hx hX (show i + 1 < X.1 by omega), aX_t hx hX (show i + 2 < X.1 by omega), ck_t k0, e1, cI_x, aX_t hx hX (show i + 1 < X.1 by omega), aX_t hx hX (show i + 2 < X.1 by omega), hsh.ck, e2, cI_x, if_pos rfl]
  exact hR _ _ _ ⟨hS, hM, hsh, PD_mono hP (by omega), hx⟩
theorem lw_19 {R : Mem → Option (Int32 × Mem)} (hX : X.1 ≤ 2560) (hi : i + 5 ≤ X.1) (hk : k + 1 ≤ 512) (hA : AL X S I T k) (hR : ∀ S' I' T', AL X S' I' T' (k + 1) → Good (R ((I', T') : Mem))) : Good (ck ((I, T) : Mem) 0 12 <| cI (f_x_write 0 ((I, T) : Mem)) fun v M1 => ck M1 492 13 <| cI (f_m_write 492 M1) fun w M2 => if v = w then R M2 else some ((0 : Int32), M2)) := by
  obtain ⟨hS, hM, hsh, hP, hx⟩ := id hA
  have hk0 : k ≤ 512 := Nat.le_of_lt hk
  have k0 : tK T 0 = 12 := hS.2.1.1
  obtain ⟨I1, T1, e1, C1, K1⟩ := x_write hS hP
  obtain ⟨N1, s1, x1⟩ := AL_mid hA K1
  obtain ⟨I2, T2, e2, M2, F2⟩ := m_write s1 N1 hP
  rw [ck_t k0, e1, cI_x, s1.ck, e2, cI_x, if_pos rfl]
  exact hR _ _ _ (AL_end C1 s1 x1 (PD_write hP) M2 F2)
theorem lw_20 {R : Mem → Option (Int32 × Mem)} (hX : X.1 ≤ 2560) (hi : i + 5 ≤ X.1) (hk : k + 1 ≤ 512) (hA : AL X S I T k) (hR : ∀ S' I' T', AL X S' I' T' (k + 1) → Good (R ((I', T') : Mem))) : Good (aX ((I, T) : Mem) (nI i + (1 : Int32)) fun v1 => ck ((I, T) : Mem) 0 12 <| cI (f_x_written 0 v1 ((I, T) : Mem)) fun v M1 => aX M1 (nI i + (1 : Int32)) fun w1 => ck M1 492 13 <| cI (f_m_written 492 w1 M1) fun w M2 => if v = w then R M2 else some ((0 : Int32), M2)) := by
  obtain ⟨hS, hM, hsh, hP, hx⟩ := id hA
  have hk0 : k ≤ 512 := Nat.le_of_lt hk
  have k0 : tK T 0 = 12 := hS.2.1.1
  obtain ⟨v, e1, e2⟩ := rd_written hS hsh hM hP (X.2 (i + 1))
  rw [show nI i + (1 : Int32) = nI (i + 1) from nI_1 _, aX_t hx hX (show i + 1 < X.1 by omega), ck_t k0, e1, cI_x, aX_t hx hX (show i + 1 < X.1 by omega), hsh.ck, e2, cI_x, if_pos rfl]
  exact hR _ _ _ ⟨hS, hM, hsh, PD_mono hP (by omega), hx⟩
theorem lw_21 {R : Mem → Option (Int32 × Mem)} (hX : X.1 ≤ 2560) (hi : i + 5 ≤ X.1) (hk : k + 1 ≤ 512) (hA : AL X S I T k) (hR : ∀ S' I' T', AL X S' I' T' (k + 1) → Good (R ((I', T') : Mem))) : Good (ck ((I, T) : Mem) 0 12 <| cI (f_x_clear 0 ((I, T) : Mem)) fun v M1 => ck M1 492 13 <| cI (f_m_clear 492 M1) fun w M2 => if v = w then R M2 else some ((0 : Int32), M2)) := by
  obtain ⟨hS, hM, hsh, hP, hx⟩ := id hA
  have hk0 : k ≤ 512 := Nat.le_of_lt hk
  have k0 : tK T 0 = 12 := hS.2.1.1
  obtain ⟨I1, T1, e1, C1, K1⟩ := x_clear hS hP
  obtain ⟨N1, s1, x1⟩ := AL_mid hA K1
  obtain ⟨I2, T2, e2, M2, F2⟩ := m_clear s1 N1
  rw [ck_t k0, e1, cI_x, s1.ck, e2, cI_x, if_pos rfl]
  exact hR _ _ _ (AL_end C1 s1 x1 (PD_clear hP) M2 F2)
theorem lw_stop {a b : Nat} (ha : a < 2 ^ 30) (hb : b < 2 ^ 30) : nI a - (5 : Int32) < nI b ↔ a < b + 5 := by
  have t1 : (nI a).toInt = a := nI_toInt (by omega)
  have t2 : (nI b).toInt = b := nI_toInt (by omega)
  have t3 : (5 : Int32).toInt = 5 := by decide
  rw [Int32.lt_iff_toInt_lt, Int32.toInt_sub, t1, t2, t3, Int.bmod_def]
  split <;> omega
theorem law_loop (hX : X.1 ≤ 2560) : ∀ (d n k : Nat) (S : Sy) (I : Iw) (T : Tl), k + d = 513 → d < n → 5 * k ≤ X.1 + 4 → AL X S I T k → Good (f_w_law_18 n 0 492 (nI (5 * k)) ((I, T) : Mem))
  | d, 0, k, S, I, T, _, hn, _, _ => by omega
  | 0, n + 1, k, S, I, T, hd, hn, hk, hA => by omega
  | d + 1, n + 1, k, S, I, T, hd, hn, hk, hA => by
    have e : mX ((I, T) : Mem) = X := hA.2.2.2.2
    unfold f_w_law_18
    rw [e]
    refine g_ite (fun _ => ⟨_, rfl, AL_room hA⟩) (fun hz => ?_)
    have hz' : ¬ nI X.1 - (5 : Int32) < nI (5 * k) := hz
    rw [lw_stop (by omega) (by omega)] at hz'
    have hR : ∀ S' I' T', AL X S' I' T' (k + 1) → Good (f_w_law_772 (f_w_law_18 n) 0 492 (nI (5 * k)) ((I', T') : Mem)) := fun S' I' T' h => by
      unfold f_w_law_772
      rw [show nI (5 * k) + (5 : Int32) = nI (5 * (k + 1)) by rw [show (5 : Int32) = nI 5 from rfl, nI_add, Nat.mul_succ]]
      exact law_loop hX d n (k + 1) S' I' T' (by omega) (by omega) (by omega) h
    have hi : 5 * k + 5 ≤ X.1 := by omega
    have hk1 : k + 1 ≤ 512 := by omega
    rw [aX_t hA.2.2.2.2 hX (show 5 * k < X.1 by omega), nmI_t]
    refine g_ite (fun _ => lw_0 hX hi hk1 hA hR) (fun _ => ?_)
    refine g_ite (fun _ => lw_1 hX hi hk1 hA hR) (fun _ => ?_)
    refine g_ite (fun _ => lw_2 hX hi hk1 hA hR) (fun _ => ?_)
    refine g_ite (fun _ => lw_3 hX hi hk1 hA hR) (fun _ => ?_)
    refine g_ite (fun _ => lw_4 hX hi hk1 hA hR) (fun _ => ?_)
    refine g_ite (fun _ => lw_5 hX hi hk1 hA hR) (fun _ => ?_)
    refine g_ite (fun _ => lw_6 hX hi hk1 hA hR) (fun _ => ?_)
    refine g_ite (fun _ => lw_7 hX hi hk1 hA hR) (fun _ => ?_)
    refine g_ite (fun _ => lw_8 hX hi hk1 hA hR) (fun _ => ?_)
    refine g_ite (fun _ => lw_9 hX hi hk1 hA hR) (fun _ => ?_)
    refine g_ite (fun _ => lw_10 hX hi hk1 hA hR) (fun _ => ?_)
    refine g_ite (fun _ => lw_11 hX hi hk1 hA hR) (fun _ => ?_)
    refine g_ite (fun _ => lw_12 hX hi hk1 hA hR) (fun _ => ?_)
    refine g_ite (fun _ => lw_13 hX hi hk1 hA hR) (fun _ => ?_)
    refine g_ite (fun _ => lw_14 hX hi hk1 hA hR) (fun _ => ?_)
    refine g_ite (fun _ => lw_15 hX hi hk1 hA hR) (fun _ => ?_)
    refine g_ite (fun _ => lw_16 hX hi hk1 hA hR) (fun _ => ?_)
    refine g_ite (fun _ => lw_17 hX hi hk1 hA hR) (fun _ => ?_)
    refine g_ite (fun _ => lw_18 hX hi hk1 hA hR) (fun _ => ?_)
    refine g_ite (fun _ => lw_19 hX hi hk1 hA hR) (fun _ => ?_)
    refine g_ite (fun _ => lw_20 hX hi hk1 hA hR) (fun _ => ?_)
    refine g_ite (fun _ => lw_21 hX hi hk1 hA hR) (fun _ => ?_)
    exact hR S I T ⟨hA.1, hA.2.1, hA.2.2.1, PD_mono hA.2.2.2.1 (by omega), hA.2.2.2.2⟩
end
