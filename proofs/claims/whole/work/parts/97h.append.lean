/-! CALLS: append, of both -/
def yApp (S : Sy) (c n : Int32) : Int32 × Sy := if inI c 0 127 && inI n 1 60 then (if (yT S).length + n.toNatClampNeg ≤ 60 then (nI ((yT S).length + n.toNatClampNeg), (yE S, yD S, yQ S, yT S ++ List.replicate n.toNatClampNeg c, yW S, yX S)) else (-1000000003, S)) else (-1000000002, S)
section
variable {T T' : Tl} {I I' : Iw} {E E' : Env} {D D' : Dy} {Q Q' : Slow} {S : Sy} {g g' : Nat → Kst} {o i j s c r tk k m : Nat}
theorem PD_app (h : PD S k) (c n : Int32) : PD (yApp S c n).2 (k + 1) := by
  unfold yApp
  split
  · rename_i hr
    split
    · rename_i hl
      have h2 := PD_mono h (show k ≤ k + 1 by omega)
      refine ⟨h2.1, h2.2.1, ⟨?_, ?_⟩, h2.2.2.2⟩
      · show (yT S ++ List.replicate n.toNatClampNeg c).length ≤ 60
        rw [List.length_append, List.length_replicate]
        exact hl
      · intro x hx
        rcases List.mem_append.mp hx with hx | hx
        · exact h2.2.2.1.2 x hx
        · rw [Bool.and_eq_true] at hr
          obtain ⟨m, -, hm, hm2⟩ := inI_rng (a := 0) (b := 127) (by omega) (by omega) hr.1
          rw [(List.mem_replicate.mp hx).2]
          exact ⟨m, by omega, hm2⟩
    · exact PD_mono h (by omega)
  · exact PD_mono h (by omega)
theorem xapp_loop {c N : Nat} (hc : c < 128) (hN : N ≤ 60) : ∀ (d n j : Nat) (l : List Int32) (I : Iw) (T : Tl), j + d = N → d < n → tK T 0 = 12 → tR T 0 0 = some 1 → tK T 1 = 14 → 550 ≤ tN T → SbC I T 1 l → RmP T → l.length + d ≤ 60 → ∃ I' T', f_x_append_43 n 0 (nI c) (nI N) (nI j) ((I, T) : Mem) = some (nI (l.length + d), ((I', T') : Mem)) ∧ SbC I' T' 1 (l ++ List.replicate d (nI c)) ∧ Gr 1 I T I' T'
  | d, 0, j, l, I, T, _, hn, _, _, _, _, _, _, _ => by omega
  | 0, n + 1, j, l, I, T, hj, hn, k0, r0, k1, h550, hS, hR, hl => by
    have e : j = N := by omega
    subst e
    refine ⟨I, T, ?_, by rw [List.replicate_zero, List.append_nil]; exact hS, Gr_rf⟩
    unfold f_x_append_43
    rw [if_pos ((nI_leI (by omega) (by omega)).mpr (Nat.le_refl _)), gA_t k0, r0, onR_s, ck_t k1, sb_length k1 hS, cI_x]
    rfl
  | d + 1, n + 1, j, l, I, T, hj, hn, k0, r0, k1, h550, hS, hR, hl => by
    obtain ⟨I1, T1, e1, S1, G1⟩ := sb_app (Or.inl rfl) k1 h550 hS hR (by omega) hc
    have hlen : (l ++ [nI c]).length = l.length + 1 := by rw [List.length_append]; rfl
    obtain ⟨I2, T2, e2, S2, G2⟩ := xapp_loop hc hN d n (j + 1) (l ++ [nI c]) I1 T1 (by omega) (by omega) (by rw [(G1.1 0 (by omega)).1]; exact k0) (by rw [G1.2.1 0 0 (by omega) (by omega)]; exact r0) (by rw [(G1.1 1 (by omega)).1]; exact k1) (Nat.le_trans h550 G1.2.2.1) S1 (G1.2.2.2.2.2.1 hR) (by omega)
    rw [hlen, show l.length + 1 + d = l.length + (d + 1) by omega] at e2
    refine ⟨I2, T2, ?_, ?_, Gr_tr G1 G2⟩
    · have hch := (ch128 ⟨c, hc⟩).2.2.2.1
      simp only at hch
      unfold f_x_append_43
      rw [if_neg (fun z => by have := (nI_leI (by omega) (by omega)).mp z; omega), gA_t k0, r0, onR_s, ck_t k1, hch, e1, cR_x, onR_s, show nI j + (1 : Int32) = nI (j + 1) from nI_1 _, e2]
    · rw [List.replicate_succ]
      rw [List.append_assoc] at S2
      exact S2
theorem x_append (hC : SC S I T) (h : PD S k) (c n : Int32) : ∃ I' T', f_x_append 0 c n ((I, T) : Mem) = some ((yApp S c n).1, ((I', T') : Mem)) ∧ SC (yApp S c n).2 I' T' ∧ KP I T I' T' := by
  have hC' := hC
  have bad : ∀ {m : Option (Int32 × Mem)}, (inI c 0 127 && inI n 1 60) = false → m = some ((-1000000002 : Int32), ((I, T) : Mem)) → ∃ I' T', m = some ((yApp S c n).1, ((I', T') : Mem)) ∧ SC (yApp S c n).2 I' T' ∧ KP I T I' T' := fun hb e => by
    unfold yApp
    rw [hb]
    exact ⟨I, T, e, hC', KP_rf⟩
  unfold f_x_append
  by_cases h1 : c < 0
  · exact bad (by unfold inI; rw [decide_eq_true h1]; rfl) (if_pos h1)
  by_cases h2 : (127 : Int32) < c
  · exact bad (by unfold inI; rw [decide_eq_true h2, decide_eq_false h1]; rfl) (by rw [if_neg h1, if_pos h2])
  have i1 : inI c 0 127 = true := by unfold inI; rw [decide_eq_false h2, decide_eq_false h1]; rfl
  by_cases h3 : n < 1
  · exact bad (by rw [i1]; unfold inI; rw [decide_eq_true h3]; rfl) (by rw [if_neg h1, if_neg h2, if_pos h3])
  by_cases h4 : n ≤ 60
  case neg => exact bad (by rw [i1]; unfold inI; rw [decide_eq_true (Int32.not_le.mp h4), decide_eq_false h3]; rfl) (by rw [if_neg h1, if_neg h2, if_neg h3, if_neg h4])
  have i2 : inI n 1 60 = true := by unfold inI; rw [decide_eq_false (Int32.not_lt.mpr h4), decide_eq_false h3]; rfl
  have hr : (inI c 0 127 && inI n 1 60) = true := by rw [i1, i2]; rfl
  obtain ⟨c', -, hc', rfl⟩ := inI_rng (a := 0) (b := 127) (by omega) (by omega) i1
  obtain ⟨N, hN1, hN2, rfl⟩ := inI_rng (a := 1) (b := 60) (by omega) (by omega) i2
  have hRm := SC_RmP hC
  obtain ⟨sh, shx, h550, hRm', hnE, ⟨g, hCT⟩, hT, hW, hX, hPl, hPr⟩ := hC
  have hE := h.1.1
  obtain ⟨hlen, hck⟩ := h.2.2.1
  obtain ⟨x0, x1, -, -, -, -, -, k1, -⟩ := id shx
  unfold yApp
  rw [if_neg h1, if_neg h2, if_neg h3, if_pos h4, gA_t x0, x1, onR_s, ck_t k1, sb_length k1 hT, cI_x, if_pos hr, nI_clamp (by omega), nI_add]
  by_cases hz : (yT S).length + N ≤ 60
  · obtain ⟨I1, T1, e1, S1, G1⟩ := xapp_loop (c := c') (N := N) (by omega) hN2 N FU 0 (yT S) I T (by omega) (by unfold FU; omega) x0 x1 k1 h550 hT hRm hz
    obtain ⟨C2, K2⟩ := SC_gr (Or.inl rfl) hC' hE hT G1 S1 (SbC_gr (by omega) (Or.inr rfl) (Or.inl rfl) h550 hRm hW hT G1)
    rw [if_pos hz, if_pos (show nI ((yT S).length + N) ≤ (60 : Int32) from (nI_leI (b := 60) (by omega) (by omega)).mpr hz), show (0 : Int32) = nI 0 from rfl]
    exact ⟨I1, T1, e1, C2, K2⟩
  · rw [if_neg hz, if_neg (show ¬ nI ((yT S).length + N) ≤ (60 : Int32) from fun z => hz ((nI_leI (b := 60) (by omega) (by omega)).mp z))]
    exact ⟨I, T, rfl, hC', KP_rf⟩
theorem mapp_loop (sh : shM T) {c N : Nat} (hN : N ≤ 60) : ∀ (d n j : Nat) (l : List Int32) (I : Iw), j + d = N → d < n → TxM I l → l.length + d ≤ 60 → ∃ I', f_m_append_39 n 492 (nI c) (nI N) (nI j) ((I, T) : Mem) = some (nI (l.length + d), ((I', T) : Mem)) ∧ TxM I' (l ++ List.replicate d (nI c)) ∧ (∀ a, a ≠ 492 → a ≠ 493 → I' a = I a) ∧ ∀ j, j ≠ 1 → I' 492 j = I 492 j
  | d, 0, j, l, I, _, hn, _, _ => by omega
  | 0, n + 1, j, l, I, hj, hn, hT, hl => by
    have e : j = N := by omega
    subst e
    refine ⟨I, ?_, by rw [List.replicate_zero, List.append_nil]; exact hT, fun _ _ _ => rfl, fun _ _ => rfl⟩
    unfold f_m_append_39
    rw [if_pos ((nI_leI (by omega) (by omega)).mpr (Nat.le_refl _)), sh.gI, hT.1]
    rfl
  | d + 1, n + 1, j, l, I, hj, hn, hT, hl => by
    obtain ⟨I1, hI1⟩ : ∃ I1, I1 = u2 (u2 I 493 l.length (nI c)) 492 1 (nI (l.length + 1)) := ⟨_, rfl⟩
    have hlen : (l ++ [nI c]).length = l.length + 1 := by rw [List.length_append]; rfl
    have f493 : I1 493 = u2 I 493 l.length (nI c) 493 := by rw [hI1, u2_ne (by omega)]
    have T1 : TxM I1 (l ++ [nI c]) := by
      refine ⟨by rw [hI1, hlen]; exact u2_at rfl rfl, fun j hj => ?_⟩
      rw [f493]
      by_cases hz : j = l.length
      · subst hz
        rw [u2_at rfl rfl]
        simp only [List.getElem_concat_length]
      · have hj2 : j < l.length := by omega
        rw [u2_nj rfl hz, List.getElem_append_left hj2]
        exact hT.2 j hj2
    obtain ⟨I2, e2, T2, f2, g2⟩ := mapp_loop sh hN d n (j + 1) (l ++ [nI c]) I1 (by omega) (by omega) T1 (by omega)
    rw [hlen, show l.length + 1 + d = l.length + (d + 1) by omega] at e2
    refine ⟨I2, ?_, ?_, fun a a1 a2 => by rw [f2 a a1 a2, hI1, u2_ne a1, u2_ne a2], fun j hj => by rw [g2 j hj, hI1, u2_nj rfl hj, u2_ne (by omega)]⟩
    · have e1 : (u2 I 493 l.length (nI c)) 492 1 = nI l.length := by rw [u2_ne (by omega)]; exact hT.1
      unfold f_m_append_39
      rw [if_neg (fun z => by have := (nI_leI (by omega) (by omega)).mp z; omega), sh.g0, sh.gI, hT.1, sh.s493 (by omega), sh.gI, e1, show nI l.length + (1 : Int32) = nI (l.length + 1) from nI_1 _, sh.pI, ← hI1, show nI j + (1 : Int32) = nI (j + 1) from nI_1 _, e2]
    · rw [List.replicate_succ]
      rw [List.append_assoc] at T2
      exact T2
theorem m_append (sh : shM T) (hC : SM S I T) (h : PD S k) (c n : Int32) : ∃ I' T', f_m_append 492 c n ((I, T) : Mem) = some ((yApp S c n).1, ((I', T') : Mem)) ∧ SM (yApp S c n).2 I' T' ∧ MF I T I' T' := by
  obtain ⟨hlen, hck⟩ := h.2.2.1
  unfold f_m_append yApp
  rw [m_isIn, cI_x, b01_cs]
  cases i1 : inI c 0 127 with
  | false => exact ⟨I, T, rfl, hC, MF_rf⟩
  | true =>
  rw [if_pos rfl, m_isIn, cI_x, b01_cs]
  cases i2 : inI n 1 60 with
  | false => exact ⟨I, T, rfl, hC, MF_rf⟩
  | true =>
  obtain ⟨c', -, hc', rfl⟩ := inI_rng (a := 0) (b := 127) (by omega) (by omega) i1
  obtain ⟨N, hN1, hN2, rfl⟩ := inI_rng (a := 1) (b := 60) (by omega) (by omega) i2
  rw [if_pos rfl, if_pos (show (true && true) = true from rfl), sh.gI, hC.2.1.1, nI_clamp (by omega), nI_add]
  by_cases hz : (yT S).length + N ≤ 60
  · obtain ⟨I1, e1, T1, f1, g1⟩ := mapp_loop (T := T) (c := c') (N := N) sh hN2 N FU 0 (yT S) I (by omega) (by unfold FU; omega) hC.2.1 hz
    rw [if_pos hz, if_pos (show nI ((yT S).length + N) ≤ (60 : Int32) from (nI_leI (b := 60) (by omega) (by omega)).mpr hz), show (0 : Int32) = nI 0 from rfl]
    refine ⟨I1, T, e1, ⟨MR_k hC.1 (fun a a1 a2 => f1 a (by omega) (by omega)) (fun j a1 a2 => g1 j (by omega)), T1, ?_, ?_⟩, MF_row (fun a ha => f1 a (by omega) (by omega))⟩
    · show WrM I1 (yW S)
      have h2 := hC.2.2.1
      unfold WrM at h2 ⊢
      rw [g1 80 (by omega), f1 549 (by omega) (by omega)]
      exact h2
    · show ExM I1 (yX S)
      have h2 := hC.2.2.2
      unfold ExM at h2 ⊢
      rw [g1 77 (by omega), f1 547 (by omega) (by omega), f1 548 (by omega) (by omega)]
      exact h2
  · rw [if_neg hz, if_neg (show ¬ nI ((yT S).length + N) ≤ (60 : Int32) from fun z => hz ((nI_leI (b := 60) (by omega) (by omega)).mp z))]
    exact ⟨I, T, rfl, hC, MF_rf⟩
end
