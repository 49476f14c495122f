/-! CALLS: checkpoint -/
def chkD (D : Dy) : Dy := zsW (zsG (zsR (zsH (zsD D (upw (dD D) 0 true)) (upw (dH D) 0 true)) (upw (fun _ => 0) 0 (dN D 0))) (fun _ _ => none)) 0
def chkQ (D : Dy) (Q : Slow) : Slow := (dO D, qO Q, qR Q, qV Q, qC Q, qF Q, true)
def yChk (S : Sy) : Int32 × Sy := if eQ (yE S) = 0 then (nI (qC (yQ S) + 1), (esQ (yE S) (qC (yQ S) + 1), chkD (yD S), chkQ (yD S) (yQ S), S.2.2.2)) else (-1000000005, S)
section
variable {T T' : Tl} {I I' : Iw} {E E' : Env} {D D' : Dy} {Q Q' : Slow} {S : Sy} {g g' : Nat → Kst} {o i j s c r tk k m : Nat}
theorem chkD_f (D : Dy) : dC (chkD D) = dC D ∧ dL (chkD D) = dL D ∧ dH (chkD D) = upw (dH D) 0 true ∧ dS (chkD D) = dS D ∧ dP (chkD D) = dP D ∧ dN (chkD D) = dN D ∧ dD (chkD D) = upw (dD D) 0 true ∧ dR (chkD D) = upw (fun _ => 0) 0 (dN D 0) ∧ dK (chkD D) = dK D ∧ dG (chkD D) = (fun _ _ => none) ∧ dX (chkD D) = dX D ∧ dY (chkD D) = dY D ∧ dB (chkD D) = dB D ∧ dI (chkD D) = dI D ∧ dT (chkD D) = dT D ∧ dM (chkD D) = dM D ∧ dU (chkD D) = dU D ∧ dO (chkD D) = dO D ∧ dW (chkD D) = 0 := by
  unfold chkD
  simp only [gs_W, gs_G, gs_R, gs_H, gs_D, and_self]
theorem WD_chk (h : WD E D Q k) (hQ : eQ E = 0) : WD (esQ E (qC Q + 1)) (chkD D) (chkQ D Q) (k + 1) := by
  obtain ⟨hE, hA, hI, hTI, hW, hZ, hN, hC, ⟨tb, gc, hB, htb, hphi, hgc⟩, hT0, hqc, hqk⟩ := h
  obtain ⟨f1, f2, f3, f4, f5, f6, f7, f8, f9, f10, f11, f12, f13, f14, f15, f16, f17, f18, f19⟩ := chkD_f D
  have hd0 := hI.2.2.2.2.2.2.2 hQ
  have p0 : eP E 0 = 1 := hE.2.2.1
  have s0 : spt 0 0 = 0 := rfl
  have n4 := hE.1
  have hdz : ∀ s, s ≠ 0 → dD (chkD D) s = false := fun s hs => by rw [f7, upw_ne hs]; exact hd0 s
  have hhz : ∀ s, s ≠ 0 → dH (chkD D) s = dH D s := fun s hs => by rw [f3, upw_ne hs]
  have hne : ∀ o i, 1 ≤ o → spt o i ≠ 0 := fun o i h => by unfold spt; omega
  refine ⟨hE, hA, ⟨fun o i j v => ⟨?_, ?_⟩, ?_, fun o i v => ⟨?_, fun w => ?_, ?_⟩, fun s hs => ⟨?_, ?_⟩, ?_, ?_, ?_, fun w => ?_⟩, fun o i ho hi => ⟨?_, fun w ho1 => ?_⟩, fun _ => ?_, ⟨?_, hZ.2.1, fun _ => ?_, hZ.2.2.2.1, fun _ s hs => ?_⟩, ⟨?_, hN.2.1, fun _ s => ?_, ?_, ?_, ?_⟩, ⟨hC.1, fun _ => hI.2.2.2.2.2.2.1, fun _ => rfl, fun w => by cases w⟩, ⟨tb, gc + 1, ?_, htb, ?_, Nat.succ_le_succ hgc⟩, Nat.le_trans hT0 (by omega), Nat.le_succ_of_le hqc, Nat.succ_le_succ hqc⟩
  · rw [f1]; exact (hI.1 o i j v).1
  · have hb := (hI.1 o i j v).2
    unfold BI snt at hb ⊢
    rw [f1, f4, hdz _ (hne _ _ (by omega))]
    rw [hd0, hd0, Bool.false_and] at hb
    by_cases hz : spt o i = 0
    · rw [hz, f7, f3, upw_eq, upw_eq]
      exact hb
    · rw [hdz _ hz, Bool.false_and]
      exact hb
  · unfold InvZ; rw [f1]; exact hI.2.1
  · rw [f2]; exact (hI.2.2.1 o i v).1
  · by_cases hz : spt o i = 0
    · rw [hz, f7, upw_eq]
    · rw [hhz _ hz] at w
      have := (hI.2.2.1 o i v).2.1 w
      rw [hd0] at this
      cases this
  · rw [f4]; exact (hI.2.2.1 o i v).2.2
  · rw [f2]; exact (hI.2.2.2.1 s hs).1
  · have hz : s ≠ 0 := hs 0 0 (Nat.zero_le _) (show 0 < eP E 0 by omega)
    rw [hhz s hz]; exact (hI.2.2.2.1 s hs).2
  · rw [f7, upw_eq]
    exact (decide_eq_true (show qC Q + 1 ≠ 0 by omega)).symm
  · rw [f19]
    exact (sumN_z (fun x _ => by rw [hdz _ (hne _ _ (by omega))]; rfl)).symm
  · rw [f18]; exact hI.2.2.2.2.2.2.1
  · exact absurd w (Nat.succ_ne_zero _)
  · rw [f2]
    intro r l e
    have := (hTI o i ho hi).1 r l e
    unfold goal at this ⊢
    rw [f1, f6]
    exact this
  · rw [hhz _ (hne _ _ ho1)] at w
    rw [f2, f1]
    exact (hTI o i ho hi).2 w ho1
  · rw [f19]
    exact hE.p1 (o := eN E + 1) (by omega)
  · rw [f9]; exact hZ.1
  · rw [f10]
    exact ⟨fun _ _ _ => rfl, fun o k x _ e => by cases e⟩
  · have hz : s ≠ 0 := fun z => hs 0 0 ⟨Nat.zero_le _, show 0 < eP E 0 by omega⟩ (by rw [s0]; exact z)
    rw [f8, upw_ne hz]
  · rw [f6]; exact hN.1
  · rw [f8]
    by_cases hz : s = 0
    · rw [hz, upw_eq]; exact hN.1 0
    · rw [upw_ne hz]; exact Nat.zero_le _
  · rw [f16]; exact hN.2.2.2.1
  · rw [f15, f16]; exact hN.2.2.2.2.1
  · rw [f15]; exact hN.2.2.2.2.2
  · unfold Bd
    rw [f5, f2, f1]
    exact hB
  · have e1 : wRc (esQ E (qC Q + 1)) (chkD D) = wRc E D := by
      unfold wRc
      rw [f2, f1, f18]
      rfl
    have e2 : sumN 5 (dAg (esQ E (qC Q + 1)) (chkD D)) = sumN 5 (dAg E D) := by
      have hm : ∀ k, dAg (esQ E (qC Q + 1)) (chkD D) k = dAg E D k := fun k => by
        unfold dAg upE mAg
        rw [f2, f1, f18]
        rfl
      exact sumN_cgr (fun x _ => hm x)
    have e3 : wBr (esQ E (qC Q + 1)) (chkD D) ≤ 40 := by
      unfold wBr
      rw [if_neg (show ¬ eQ (esQ E (qC Q + 1)) = 0 from Nat.succ_ne_zero _), f3, upw_eq, if_pos rfl]
      have hle : sumN 18 (wB1 (esQ E (qC Q + 1)) (chkD D)) ≤ sumN 18 (fun s => if s < 3 then 0 else if s < 6 then 1 else 3) := sumN_le (fun s hs => by
        unfold wB1
        show (if 3 ≤ s ∧ s / 3 ≤ eN E + 1 ∧ s % 3 < eP E (s / 3) ∧ dD (chkD D) s = false then eP E (s / 3 - 1) - pop3 (dS (chkD D) s) else 0) ≤ _
        split
        · rename_i hh
          rw [if_neg (by omega)]
          by_cases h6 : s < 6
          · rw [if_pos h6, show s / 3 - 1 = 0 by omega, p0]
            exact Nat.sub_le _ _
          · rw [if_neg h6]
            have := hE.p3 (o := s / 3 - 1) (by omega)
            omega
        · exact Nat.zero_le _)
      have h39 : sumN 18 (fun s => if s < 3 then 0 else if s < 6 then 1 else 3) = 39 := by decide
      omega
    have e5 : phi E D = wRc E D + wBr E D + sumN 5 (dAg E D) := rfl
    have e6 : phi (esQ E (qC Q + 1)) (chkD D) = wRc (esQ E (qC Q + 1)) (chkD D) + wBr (esQ E (qC Q + 1)) (chkD D) + sumN 5 (dAg (esQ E (qC Q + 1)) (chkD D)) := rfl
    show (eT E - tb) + phi (esQ E (qC Q + 1)) (chkD D) + 167 * (60 - (eI E).length) ≤ 10065 + 40 * (gc + 1)
    rw [e6, e1, e2]
    rw [e5] at hphi
    omega
theorem PD_chk (h : PD S k) : PD (yChk S).2 (k + 1) := by
  unfold yChk
  split
  · rename_i hz
    exact ⟨WD_chk h.1 hz, h.2⟩
  · exact PD_mono h (by omega)
theorem sm_chk (sh : shSm T) (hE : okE E) (hI : Inv E D) (hQ : eQ E = 0) (hC : CT E D g Q I T) : ∃ I', f_sm_beginCheckpoint 10 ((I, T) : Mem) = some ((I', T) : Mem) ∧ CT (esQ E (qC Q + 1)) (chkD D) g (chkQ D Q) I' T ∧ FX T I I' ∧ I' 10 12 = nI (qC Q + 1) := by
  have n4 := hE.1
  have p0 : eP E 0 = 1 := hE.2.2.1
  obtain ⟨f1, f2, f3, f4, f5, f6, f7, f8, f9, f10, f11, f12, f13, f14, f15, f16, f17, f18, f19⟩ := chkD_f D
  have hd0 := hI.2.2.2.2.2.2.2 hQ
  obtain ⟨h1, h2, h3, h4, h5, h6, h7, ⟨s1, s2, s3, s4⟩, h9, h10, ⟨v1, v2, v3, v4, v5, v6, v7⟩⟩ := hC
  obtain ⟨I3, hI3⟩ : ∃ I3, I3 = u2 (u2 I 10 14 (nI 1)) 10 12 (nI (qC Q + 1)) := ⟨_, rfl⟩
  obtain ⟨I7, hI7⟩ : ∃ I7, I7 = u2 (u2 I3 10 13 (nI (eP E (eN E + 1)))) 10 7 (nI (dO D)) := ⟨_, rfl⟩
  obtain ⟨I9, hI9⟩ : ∃ I9, I9 = u2 (u2 I7 38 5 (nI (dN D 0))) 38 1 (nI 1) := ⟨_, rfl⟩
  have g3 : ∀ a, a ≠ 10 → I3 a = I a := fun a h => by rw [hI3, u2_ne h, u2_ne h]
  have g7 : ∀ a, a ≠ 10 → I7 a = I a := fun a h => by rw [hI7, u2_ne h, u2_ne h, g3 a h]
  have g9 : ∀ a, a ≠ 38 → I9 a = I7 a := fun a h => by rw [hI9, u2_ne h, u2_ne h]
  have f : ∀ a, a ≠ 10 → a ≠ 38 → I9 a = I a := fun a h h' => by rw [g9 a h', g7 a h]
  have fj3 : ∀ j, j ≠ 14 → j ≠ 12 → I3 10 j = I 10 j := fun j a b => by rw [hI3, u2_nj rfl b, u2_nj rfl a]
  have fj7 : ∀ j, j ≠ 13 → j ≠ 7 → I7 10 j = I3 10 j := fun j a b => by rw [hI7, u2_nj rfl b, u2_nj rfl a]
  have fj : ∀ j, j ≠ 14 → j ≠ 12 → j ≠ 13 → j ≠ 7 → I9 10 j = I 10 j := fun j a b c d => by rw [g9 10 (by omega), fj7 j c d, fj3 j a b]
  have fi : ∀ j, j ≠ 5 → j ≠ 1 → I9 38 j = I 38 j := fun j a b => by rw [hI9, u2_nj rfl b, u2_nj rfl a, g7 38 (by omega)]
  have q12 : I9 10 12 = nI (qC Q + 1) := by rw [g9 10 (by omega), fj7 12 (by omega) (by omega), hI3]; exact u2_at rfl rfl
  have q14 : I9 10 14 = nI 1 := by rw [g9 10 (by omega), fj7 14 (by omega) (by omega), hI3, u2_nj rfl (by omega)]; exact u2_at rfl rfl
  have q13 : I9 10 13 = nI (eP E (eN E + 1)) := by rw [g9 10 (by omega), hI7, u2_nj rfl (by omega)]; exact u2_at rfl rfl
  have q7 : I9 10 7 = nI (dO D) := by rw [g9 10 (by omega), hI7]; exact u2_at rfl rfl
  have q5 : I9 38 5 = nI (dN D 0) := by rw [hI9, u2_nj rfl (by omega)]; exact u2_at rfl rfl
  have q1 : I9 38 1 = nI 1 := by rw [hI9]; exact u2_at rfl rfl
  have c3 : CfC I3 E := CfC_cg h1 n4 (fj3 5 (by omega) (by omega)) (g3 11 (by omega)) (fun o ho j _ _ => by rw [g3 _ (by omega)])
  have c7 : CfC I7 E := CfC_cg h1 n4 (by rw [fj7 5 (by omega) (by omega), fj3 5 (by omega) (by omega)]) (g7 11 (by omega)) (fun o ho j _ _ => by rw [g7 _ (by omega)])
  have hin0 := h3 0 0 (by omega) (by omega)
  have hN0 : I 38 4 = nI (dN D 0) := hin0.2.2.2.2
  refine ⟨I9, ?_, ⟨CfC_cg (E := esQ E (qC Q + 1)) h1 n4 (fj 5 (by omega) (by omega) (by omega) (by omega)) (f 11 (by omega) (by omega)) (fun o ho j _ _ => by rw [f _ (by omega) (by omega)]), ?_, fun o i ho hi => ?_, ?_, PeC_cg h5 (fun a _ _ _ _ => f a (by omega) (by omega)), ⟨h6.1, fun o i v hd => ?_⟩, ?_, ⟨?_, (fj 9 (by omega) (by omega) (by omega) (by omega)).trans s2, q12, fun _ _ => ?_⟩, NpC_cg (E := esQ E (qC Q + 1)) h9 (fun a _ _ => f a (by omega) (by omega)), ?_, ⟨fun o ho => KyC_cg (v1 o ho) (fun a _ _ => f a (by omega) (by omega)), fun o i ho hi => ?_, q7, (fj 8 (by omega) (by omega) (by omega) (by omega)).trans v4, (fj 10 (by omega) (by omega) (by omega) (by omega)).trans v5, (fj 11 (by omega) (by omega) (by omega) (by omega)).trans v6, q14⟩⟩, fun a ha hb hc => f a (by omega) (by omega), q12⟩
  · have ksm := sh.1
    have e1 := sm_sizeOf (T := T) (o := eN E + 1) sh c3 n4 (by omega)
    rw [if_pos (Nat.le_refl _)] at e1
    have e2 := sm_inAt (T := T) (o := 0) (i := 0) sh c7 hE (by omega) (by omega)
    rw [if_pos ⟨Nat.zero_le _, by omega⟩] at e2
    have hst : I3 10 5 = nI (eN E) := by rw [fj3 5 (by omega) (by omega)]; exact h1.1
    have k38 : tK T 38 = 3 := ((sh.op (o := 0) (by omega)).inn (i := 0) (by omega)).1
    have hO : (u2 I3 10 13 (nI (eP E (eN E + 1)))) 10 6 = nI (dO D) := by rw [u2_nj rfl (by omega), fj3 6 (by omega) (by omega)]; exact s1
    have hc0 : (u2 I 10 14 (nI 1)) 10 11 = nI (qC Q) := by rw [u2_nj rfl (by omega)]; exact v6
    have hN7 : I7 38 4 = nI (dN D 0) := by rw [g7 38 (by omega)]; exact hN0
    unfold f_sm_beginCheckpoint
    rw [show (1 : Int32) = nI 1 from rfl, pZ_t ksm (by omega), gI_t ksm, hc0, show nI (qC Q) + nI 1 = nI (qC Q + 1) from nI_1 _, pI_t ksm, ← hI3, gI_t ksm, hst, show nI (eN E) + nI 1 = nI (eN E + 1) from nI_1 _, ck_t ksm, e1, cI_x, pI_t ksm, gI_t ksm, hO, pI_t ksm, ← hI7, ck_t ksm, show (0 : Int32) = nI 0 from rfl, e2, cR_x, onR_s, gI_t k38, hN7, pI_t k38, pZ_t k38 (by omega), ← hI9]
  · unfold ChsC; rw [f1]; exact ChsC_cg h2 (fun a _ _ => f a (by omega) (by omega))
  · have hin := h3 o i ho hi
    by_cases hz : o = 0 ∧ i = 0
    · obtain ⟨rfl, rfl⟩ := hz
      obtain ⟨w1, w2, w3, w4, w5⟩ := hin
      unfold InC
      rw [f2, f3, f4, f5, f6]
      refine ⟨Rng_cg w1 (fun a _ _ => f a (by omega) (by omega)), ?_, ?_, ?_, ?_⟩
      · have : upw (dH D) 0 true (spt 0 0) = true := upw_eq
        rw [this]; exact q1
      · exact (fi 2 (by omega) (by omega)).trans w3
      · exact (fi 3 (by omega) (by omega)).trans w4
      · exact (fi 4 (by omega) (by omega)).trans w5
    · have hs : spt o i ≠ 0 := by unfold spt; omega
      have ha := adr_ne (o := 0) (i := 0) (by omega) hi hz
      refine InC_cg hin ⟨by rw [f2], by rw [f3, upw_ne hs], by rw [f4], by rw [f5], by rw [f6]⟩ (fun j hj => ?_) (fun a _ _ => f a (by omega) (by omega))
      rw [f _ (by omega) (by omega)]
  · unfold KsC; rw [f9]; exact KsC_cg h4 (fun a _ _ _ _ => f a (by omega) (by omega))
  · by_cases hz : spt o i = 0
    · have ho0 : o = 0 := by unfold spt at hz; omega
      have hi0 : i = 0 := by unfold spt at hz; omega
      subst ho0 hi0
      refine ⟨fun k _ => ?_, ?_⟩
      · rw [f10]; exact h6.1 k
      · rw [f8]
        have : upw (fun _ => 0) 0 (dN D 0) (spt 0 0) = dN D 0 := upw_eq
        rw [this]; exact q5
    · rw [f7, upw_ne hz, hd0] at hd
      cases hd
  · unfold StC; rw [f11, f12, f13, f14]; exact StC_cg h7 (fun o _ j _ _ => by rw [f _ (by omega) (by omega)])
  · rw [f18]; exact (fj 6 (by omega) (by omega) (by omega) (by omega)).trans s1
  · rw [f19]; exact q13
  · unfold LaC; rw [f15, f16, f17]; exact LaC_cg h10 (f 18 (by omega) (by omega)) (fun a ha => f a (by omega) (by omega))
  · have hv := v2 o i ho hi
    show I9 (20 + 33 * o + 18 + 5 * i) 6 = nI (qR Q (spt o i))
    by_cases hz : o = 0 ∧ i = 0
    · obtain ⟨rfl, rfl⟩ := hz
      exact (fi 6 (by omega) (by omega)).trans hv
    · have ha := adr_ne (o := 0) (i := 0) (by omega) hi hz
      rw [f _ (by omega) (by omega)]; exact hv
theorem x_chk (hC : SC S I T) (h : PD S k) (hk : k ≤ 512) : ∃ I' T', f_x_checkpoint 0 ((I, T) : Mem) = some ((yChk S).1, ((I', T') : Mem)) ∧ SC (yChk S).2 I' T' ∧ KP I T I' T' := by
  have hC' := hC
  obtain ⟨sh, shx, h550, -, -, ⟨g, hCT⟩, -⟩ := hC
  have hE := h.1.1
  have hI := h.1.2.2.1
  have hq := h.1.2.2.2.2.2.2.2.2.2.2.2
  obtain ⟨x0, -, -, -, x3, -⟩ := shx
  have ksm := sh.1
  have h12 := hCT.2.2.2.2.2.2.2.1.2.2.1
  unfold f_x_checkpoint yChk
  rw [gA_t x0, x3, onR_s, gI_t ksm, h12]
  by_cases hz : eQ (yE S) = 0
  · obtain ⟨I1, e1, C1, F1, q12⟩ := sm_chk sh hE hI hz hCT
    obtain ⟨C2, K2⟩ := SC_fx hC' hE C1 F1 rfl rfl rfl rfl rfl
    rw [if_pos hz, hz, if_pos (show nI 0 = (0 : Int32) from rfl)]
    refine ⟨I1, T, ?_, C2, K2⟩
    rw [gA_t x0, x3, onR_s, ck_t ksm, e1, cV_x, gA_t x0, x3, onR_s, gI_t ksm, q12]
  · rw [if_neg hz, if_neg (nI_ne0 (by omega) (by omega))]
    exact ⟨I, T, rfl, hC', KP_rf⟩
theorem ck2 (sh : shM T) : ∀ (d n k : Nat), k + d = 18 → d < n → f_m_checkpoint_68 n 492 (nI k) ((fil I (vB I) [514] k, T) : Mem) = f_m_checkpoint_68 1 492 (nI 18) ((fil I (vB I) [514] 18, T) : Mem)
  | d, 0, k, _, hn => by omega
  | 0, n + 1, k, hk, hn => by
    have : k = 18 := by omega
    subst this
    unfold f_m_checkpoint_68
    simp (disch := omega) only [↓sh.gI, ↓sh.pI, ↓sh.ck, ↓cI_x, ↓cV_x, ↓nmI_t, ↓reduceIte, rmI_t, dvI_t, nI_add, pk_mul, pk_sub, nI_leI, nI_ltI, nI_eq, n_leT, n_leF, n_ltT, n_ltF, n_eqT, n_eqF, u2_ne, u2_at, u2_nj, ↓i_neg1, m1_ne, m1_en, m1_lt, m1_le, m1_nlt, m1_nle, i_lits, true_and, and_true, ↓sh.g33, ↓sh.g34, ↓sh.g45, sh.a513, sh.a514, sh.a522, sh.s513, sh.s514, sh.s522]
  | d + 1, n + 1, k, hk, hn => by
    have e := ck2 sh d n (k + 1) (by omega) (by omega)
    have e3 : u2 (fil I (vB I) [514] k) 514 k (nI 0) = fil I (vB I) [514] (k + 1) := fil_step (I := I) (V := vB I) (l := [514]) (m := k)
    rw [← e]
    conv => lhs; unfold f_m_checkpoint_68
    simp (disch := omega) only [↓sh.gI, ↓sh.pI, ↓sh.ck, ↓cI_x, ↓cV_x, ↓nmI_t, ↓reduceIte, rmI_t, dvI_t, nI_add, pk_mul, pk_sub, nI_leI, nI_ltI, nI_eq, n_leT, n_leF, n_ltT, n_ltF, n_eqT, n_eqF, u2_ne, u2_at, u2_nj, ↓i_neg1, m1_ne, m1_en, m1_lt, m1_le, m1_nlt, m1_nle, i_lits, true_and, and_true, ↓sh.g33, ↓sh.g34, ↓sh.g45, sh.a513, sh.a514, sh.a522, sh.s513, sh.s514, sh.s522, e3]
theorem ck1 (sh : shM T) : ∀ (d n k : Nat), k + d = 96 → d < n → f_m_checkpoint_33 n 492 (nI k) ((fil I (vB I) [505, 508, 511] k, T) : Mem) = f_m_checkpoint_68 FU 492 (nI 0) ((fil I (vB I) [505, 508, 511] 96, T) : Mem)
  | d, 0, k, _, hn => by omega
  | 0, n + 1, k, hk, hn => by
    have : k = 96 := by omega
    subst this
    unfold f_m_checkpoint_33
    simp (disch := omega) only [↓sh.gI, ↓sh.pI, ↓sh.ck, ↓cI_x, ↓cV_x, ↓nmI_t, ↓reduceIte, rmI_t, dvI_t, nI_add, pk_mul, pk_sub, nI_leI, nI_ltI, nI_eq, n_leT, n_leF, n_ltT, n_ltF, n_eqT, n_eqF, u2_ne, u2_at, u2_nj, ↓i_neg1, m1_ne, m1_en, m1_lt, m1_le, m1_nlt, m1_nle, i_lits, true_and, and_true, ↓sh.g25, ↓sh.g28, ↓sh.g31, sh.a505, sh.a508, sh.a511, sh.s505, sh.s508, sh.s511]
  | d + 1, n + 1, k, hk, hn => by
    have e := ck1 sh d n (k + 1) (by omega) (by omega)
    have e3 : u2 (u2 (u2 (fil I (vB I) [505, 508, 511] k) 505 k (nI 0)) 508 k (nI 0)) 511 k (nI 0) = fil I (vB I) [505, 508, 511] (k + 1) := fil_step (I := I) (V := vB I) (l := [505, 508, 511]) (m := k)
    unfold f_m_checkpoint_33
    simp (disch := omega) only [↓sh.gI, ↓sh.pI, ↓sh.ck, ↓cI_x, ↓cV_x, ↓nmI_t, ↓reduceIte, rmI_t, dvI_t, nI_add, pk_mul, pk_sub, nI_leI, nI_ltI, nI_eq, n_leT, n_leF, n_ltT, n_ltF, n_eqT, n_eqF, u2_ne, u2_at, u2_nj, ↓i_neg1, m1_ne, m1_en, m1_lt, m1_le, m1_nlt, m1_nle, i_lits, true_and, and_true, ↓sh.g25, ↓sh.g28, ↓sh.g31, sh.a505, sh.a508, sh.a511, sh.s505, sh.s508, sh.s511, e3, e]
theorem m_chk (sh : shM T) (hC : SM S I T) (h : PD S k) (hk : k ≤ 512) : ∃ I' T', f_m_checkpoint 492 ((I, T) : Mem) = some ((yChk S).1, ((I', T') : Mem)) ∧ SM (yChk S).2 I' T' ∧ MF I T I' T' := by
  have hq := h.1.2.2.2.2.2.2.2.2.2.2.2
  obtain ⟨q1, q2, q3, q4, q5, q6, q7, q8, v1, v2, v3, v4, v5, v6, v7, v8⟩ := hC.1
  unfold f_m_checkpoint yChk
  rw [sh.gI, v4]
  by_cases hz : eQ (yE S) = 0
  case neg =>
    rw [if_neg hz, if_neg (show ¬ nI (eQ (yE S)) ≤ (0 : Int32) from fun z => by have := (nI_leI (b := 0) (by omega) (by omega)).mp z; omega)]
    exact ⟨I, T, rfl, hC, MF_rf⟩
  rw [if_pos hz, hz, if_pos (show nI 0 ≤ (0 : Int32) by decide)]
  obtain ⟨f1, f2, f3, f4, f5, f6, f7, f8, f9, f10, f11, f12, f13, f14, f15, f16, f17, f18, f19⟩ := chkD_f (yD S)
  obtain ⟨I1, hI1⟩ : ∃ I1, I1 = u2 (u2 (u2 I 492 17 (nI (qC (yQ S) + 1))) 492 19 (nI 1)) 492 38 (nI 0) := ⟨_, rfl⟩
  obtain ⟨I2, hI2⟩ : ∃ I2, I2 = fil I1 (vB I1) [505, 508, 511] 96 := ⟨_, rfl⟩
  obtain ⟨I3, hI3⟩ : ∃ I3, I3 = fil I2 (vB I2) [514] 18 := ⟨_, rfl⟩
  obtain ⟨I4, hI4⟩ : ∃ I4, I4 = u2 (u2 (u2 I3 492 36 (nI (dO (yD S)))) 514 0 (nI (dN (yD S) 0))) 522 0 (nI 1) := ⟨_, rfl⟩
  have gl : ∀ (a : Nat) (l : List Nat), (∀ b, b ∈ l → a ≠ b) → a ∉ l := fun a l h z => h a z rfl
  have g1 : ∀ a, a ≠ 492 → I1 a = I a := fun a h => by rw [hI1, u2_ne h, u2_ne h, u2_ne h]
  have g2 : ∀ a, (a ≠ 505 ∧ a ≠ 508 ∧ a ≠ 511) → I2 a = I1 a := fun a h => by rw [hI2]; exact fil_ne (gl _ _ (fun b hb => by simp only [List.mem_cons, List.not_mem_nil, or_false] at hb; omega))
  have g3 : ∀ a, a ≠ 514 → I3 a = I2 a := fun a h => by rw [hI3]; exact fil_ne (gl _ _ (fun b hb => by simp only [List.mem_cons, List.not_mem_nil, or_false] at hb; omega))
  have g4 : ∀ a, a ≠ 492 → a ≠ 514 → a ≠ 522 → I4 a = I3 a := fun a a1 a2 a3 => by rw [hI4, u2_ne a3, u2_ne a2, u2_ne a1]
  have fr : ∀ a, (a ≠ 492 ∧ a ≠ 505 ∧ a ≠ 508 ∧ a ≠ 511 ∧ a ≠ 514 ∧ a ≠ 522) → I4 a = I a := fun a h => by rw [g4 a (by omega) (by omega) (by omega), g3 a (by omega), g2 a (by omega), g1 a (by omega)]
  have h3 : ∀ j, I3 492 j = I1 492 j := fun j => by rw [g3 492 (by omega), g2 492 (by omega)]
  have h4 : ∀ j, j ≠ 36 → I4 492 j = I1 492 j := fun j hj => by rw [hI4, u2_ne (show (492 : Nat) ≠ 522 by omega), u2_ne (show (492 : Nat) ≠ 514 by omega), u2_nj rfl hj, h3]
  have fj : ∀ j, j ≠ 17 → j ≠ 19 → j ≠ 38 → j ≠ 36 → I4 492 j = I 492 j := fun j a b c d => by rw [h4 j d, hI1, u2_nj rfl c, u2_nj rfl b, u2_nj rfl a]
  have fm : CoM I4 (esQ (yE S) (qC (yQ S) + 1)) := by
    obtain ⟨c1, c2, c3, c4, c5, c6, c7, c8⟩ := q1
    refine ⟨(fj _ (by omega) (by omega) (by omega) (by omega)).trans c1, (fj _ (by omega) (by omega) (by omega) (by omega)).trans c2, (fj _ (by omega) (by omega) (by omega) (by omega)).trans c3, (fj _ (by omega) (by omega) (by omega) (by omega)).trans c4, (fj _ (by omega) (by omega) (by omega) (by omega)).trans c5, (fj _ (by omega) (by omega) (by omega) (by omega)).trans c6, ?_, ?_⟩
    · rw [fr 494 (by omega), fr 495 (by omega), fr 496 (by omega), fr 497 (by omega)]
      exact c7
    · rw [fr 498 (by omega), fr 499 (by omega)]
      exact c8
  have z2 : ∀ a x, x < 96 → (a = 505 ∨ a = 508 ∨ a = 511) → I4 a x = nI 0 := fun a x hx ha => by
    have hm : a ∈ [505, 508, 511] := by simp only [List.mem_cons, List.not_mem_nil, or_false]; omega
    rw [g4 a (by omega) (by omega) (by omega), g3 a (by omega), hI2, fil_at hm hx]
    unfold vB
    rw [if_neg (by omega), if_neg (by omega), if_neg (by omega), if_neg (by omega)]
  have e514 : I4 514 = u2 (u2 I3 492 36 (nI (dO (yD S)))) 514 0 (nI (dN (yD S) 0)) 514 := by rw [hI4, u2_ne (show (514 : Nat) ≠ 522 by omega)]
  have e522 : I4 522 = u2 (u2 (u2 I3 492 36 (nI (dO (yD S)))) 514 0 (nI (dN (yD S) 0))) 522 0 (nI 1) 522 := by rw [hI4]
  have w522 : ∀ x, x ≠ 0 → I4 522 x = I 522 x := fun x hx => by
    rw [e522, u2_nj rfl hx, u2_ne (show (522 : Nat) ≠ 514 by omega), u2_ne (show (522 : Nat) ≠ 492 by omega), g3 522 (by omega), g2 522 (by omega), g1 522 (by omega)]
  have w514 : ∀ s, s < 18 → I4 514 s = nI (upw (fun _ => 0) 0 (dN (yD S) 0) s) := fun s hs => by
    rw [e514]
    by_cases hy : s = 0
    · rw [hy, upw_eq]; exact u2_at rfl rfl
    · rw [upw_ne hy, u2_nj rfl hy, u2_ne (show (514 : Nat) ≠ 492 by omega), hI3]
      exact fil_at (by decide) hs
  have hM : MR (esQ (yE S) (qC (yQ S) + 1)) (chkD (yD S)) (chkQ (yD S) (yQ S)) (qC (yQ S) + 1) (eT (yE S)) I4 T := by
    unfold MR ChsM InsM StM ScM LaM RuM
    rw [f1, f2, f3, f4, f5, f6, f8, f9, f10, f11, f12, f13, f14, f15, f16, f17, f18, f19]
    refine ⟨fm, ChsM_cg q2 (fun a _ _ => fr a (by omega)), fun s hs => ?_, KyM_cg q4 (fr _ (by omega)) (fr _ (by omega)) (fr _ (by omega)), StM_cg q5 (fun a _ _ => fr a (by omega)), ⟨(fj _ (by omega) (by omega) (by omega) (by omega)).trans q6.1, (fj _ (by omega) (by omega) (by omega) (by omega)).trans q6.2.1, fun _ => ?_⟩, LaM_cg q7 (fr _ (by omega)) (fj _ (by omega) (by omega) (by omega) (by omega)), ⟨fun o k ho => ⟨?_, fun x hx => by cases hx⟩, w514⟩, KyM_cg v1 (fr _ (by omega)) (fr _ (by omega)) (fr _ (by omega)), fun s hs => (by rw [fr _ (by omega)]; exact v2 s hs), (fj _ (by omega) (by omega) (by omega) (by omega)).trans v3, ?_, (fj _ (by omega) (by omega) (by omega) (by omega)).trans v5, ?_, ?_, (fj _ (by omega) (by omega) (by omega) (by omega)).trans v8⟩
    · obtain ⟨i1, i2, i3, i4, i5⟩ := q3 s hs
      refine ⟨?_, (congrFun (fr 520 (by omega)) s).trans i2, (congrFun (fr 521 (by omega)) s).trans i3, ?_, (congrFun (fr 513 (by omega)) s).trans i5⟩
      · unfold LiM
        rw [fr 516 (by omega), fr 517 (by omega), fr 518 (by omega), fr 519 (by omega)]
        exact i1
      · by_cases hy : s = 0
        · rw [hy, upw_eq, e522]; exact u2_at rfl rfl
        · rw [upw_ne hy, w522 s hy]; exact i4
    · rw [h4 38 (by omega), hI1]; exact u2_at rfl rfl
    · have hk := k.isLt
      exact z2 505 _ (by omega) (by omega)
    · rw [h4 17 (by omega), hI1, u2_nj rfl (by omega), u2_nj rfl (by omega)]; exact u2_at rfl rfl
    · rw [h4 19 (by omega), hI1, u2_nj rfl (by omega)]; exact u2_at rfl rfl
    · rw [hI4, u2_ne (show (492 : Nat) ≠ 522 by omega), u2_ne (show (492 : Nat) ≠ 514 by omega)]; exact u2_at rfl rfl
  refine ⟨I4, T, ?_, SM_new (S := S) hC hM (fun j hj => fj j (by omega) (by omega) (by omega) (by omega)) (fun a ha => fr a (by omega)), MF_row (fun a ha => fr a (by omega))⟩
  have e1 := ck1 (I := I1) sh 96 FU 0 (by omega) (by unfold FU; omega)
  have e2 := ck2 (I := I2) sh 18 FU 0 (by omega) (by unfold FU; omega)
  rw [fil_0] at e1 e2
  rw [← hI2] at e1
  rw [← hI3] at e2
  have r14 : I3 492 14 = nI (dO (yD S)) := by rw [h3, hI1, u2_nj rfl (by omega), u2_nj rfl (by omega), u2_nj rfl (by omega)]; exact q6.1
  have r513 : (u2 I3 492 36 (nI (dO (yD S)))) 513 0 = nI (dN (yD S) 0) := by
    rw [u2_ne (by omega), g3 513 (by omega), g2 513 (by omega), g1 513 (by omega)]
    exact (q3 0 (by omega)).2.2.2.2
  have r17 : I4 492 17 = nI (qC (yQ S) + 1) := by rw [h4 17 (by omega), hI1, u2_nj rfl (by omega), u2_nj rfl (by omega)]; exact u2_at rfl rfl
  rw [sh.gI, v3, show nI (qC (yQ S)) + (1 : Int32) = nI (qC (yQ S) + 1) from nI_1 _, sh.pI, show (1 : Int32) = nI 1 from rfl, show (0 : Int32) = nI 0 from rfl, sh.pZ (by omega), sh.pI, ← hI1, e1, e2]
  unfold f_m_checkpoint_68
  rw [if_pos (show (18 : Int32) ≤ nI 18 by decide), sh.gI, r14, sh.pI, sh.g34, sh.g33, show (0 : Int32) = nI 0 from rfl, sh.a513 (by omega), r513, sh.s514 (by omega), sh.g45, show (1 : Int32) = nI 1 from rfl, sh.s522 (by omega) (by omega), ← hI4, sh.gI, r17]
end
