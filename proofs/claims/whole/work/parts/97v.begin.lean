/-! THE START: both sides show the first state -/
def E0 : Env := (0, fun o => if o = 0 then 7 else 8, fun _ => 0, fun _ => 0, fun _ => 1, 2, 3, 2, 2, [], 0, 0)
def D00 : Dy := (fun _ => ([], [], 0), fun _ => [], fun _ => false, fun _ => 0, fun _ => 0, fun _ => 0, fun _ => false, fun _ => 0, fun _ _ => none, fun _ _ => none, fun _ => 0, fun _ => 0, fun _ => 0, fun _ => 0, fun _ => 0, 0, 0, 0, 0)
def Q00 : Slow := (0, 0, fun _ => 0, fun _ _ => none, 0, 0, false)
def S0 : Sy := (E0, D00, Q00, [], [], [])
section
variable {T : Tl} {I : Iw} {o i j c r m p a k s : Nat} {X : Nat × (Nat → Int32)}
theorem PD_0 : PD S0 0 := by
  have hE : okE E0 := by
    refine ⟨Nat.zero_le _, fun o _ => ⟨Nat.le_refl _, ?_⟩, rfl, rfl, rfl, fun o h1 h2 => ?_, fun o h1 h2 _ => ?_, ⟨by decide, by decide⟩, ⟨by decide, by decide⟩, ⟨by decide, by decide⟩, ⟨by decide, by decide⟩, Nat.zero_le _⟩
    · show (1 : Nat) ≤ 3
      omega
    · have h3 : o ≤ 0 := h2
      omega
    · have h3 : o ≤ 0 := h2
      omega
  have hA : okA E0 := fun o h1 h2 => by
    have h3 : o ≤ 0 := h2
    omega
  have hB : okB E0 := fun o h1 h2 => by
    have h3 : o ≤ 0 := h2
    omega
  exact ⟨WD_fresh (E := E0) (D := D00) (Q := Q00) hE hA (fun _ => rfl) (fun _ => rfl) (fun _ => rfl) (fun _ => rfl) (fun _ => (by omega : (0 : Nat) < 3)) (fun _ => rfl) rfl rfl (Nat.zero_le _) ⟨fun _ _ _ => rfl, fun o k x _ e => by cases e⟩ ⟨fun _ _ _ => rfl, fun o k x _ e => by cases e⟩ (fun _ _ => rfl) (fun _ => Nat.zero_le _) (fun _ => Nat.zero_le _) (Nat.zero_le _) (sumN_z (fun x _ => rfl)) (fun _ _ => rfl) (Nat.zero_le _) (fun _ => rfl) (Nat.zero_le _) (Nat.zero_le _), hB, ⟨Nat.zero_le _, chk_0⟩, ⟨Nat.zero_le _, chk_0⟩, Nat.zero_le _⟩
theorem xp_z (h : (a < 20 ∧ a ≠ 11 ∧ a ≠ 12) ∨ (488 ≤ a ∧ a ≠ 492 ∧ a ≠ 494 ∧ a ≠ 497)) : xpI a j = 0 := by
  unfold xpI
  rw [if_neg (by omega), if_neg (by omega), if_neg (by omega), if_neg (by omega), if_neg (by omega), if_neg (by omega), if_neg (by omega)]
theorem xp_op (ho : o < 6) (hr : r < 33) (h1 : r ≠ 0) (h2 : j ≠ 3 ∨ (r ≠ 14 ∧ r ≠ 19 ∧ r ≠ 24 ∧ r ≠ 29)) (ha : a = 20 + 33 * o + r) : xpI a j = 0 := by
  unfold xpI
  rw [if_neg (by omega), if_neg (by omega), if_pos (by omega), if_neg (show ¬ (a - 20) % 33 = 0 by omega), if_neg (show ¬ (((a - 20) % 33 = 14 ∨ (a - 20) % 33 = 19 ∨ (a - 20) % 33 = 24 ∨ (a - 20) % 33 = 29) ∧ j = 3) by omega)]
theorem xp_o3 (ho : o < 6) (hr : r = 14 ∨ r = 19 ∨ r = 24 ∨ r = 29) (ha : a = 20 + 33 * o + r) : xpI a 3 = nI (4 - 1) := by
  unfold xpI
  rw [if_neg (by omega), if_neg (by omega), if_pos (by omega), if_neg (show ¬ (a - 20) % 33 = 0 by omega), if_pos (show ((a - 20) % 33 = 14 ∨ (a - 20) % 33 = 19 ∨ (a - 20) % 33 = 24 ∨ (a - 20) % 33 = 29) ∧ 3 = 3 by omega)]
  rfl
theorem xp_o0 (ho : o < 6) (h6 : j ≠ 6) (h9 : j ≠ 9) : xpI (20 + 33 * o) j = 0 := by
  unfold xpI
  rw [if_neg (by omega), if_neg (by omega), if_pos (by omega), if_pos (show (20 + 33 * o - 20) % 33 = 0 by omega), if_neg h6, if_neg h9]
theorem xp_c (hc : c < 45) (hr : r < 6) (h : r ≠ 1 ∨ j ≠ 3) (ha : a = 218 + 6 * c + r) : xpI a j = 0 := by
  unfold xpI
  rw [if_neg (by omega), if_neg (by omega), if_neg (by omega), if_pos (by omega), if_neg (show ¬ ((a - 218) % 6 = 1 ∧ j = 3) by omega)]
theorem xp_c3 (hc : c < 45) : xpI (218 + 6 * c + 1) 3 = nI (32 - 1) := by
  unfold xpI
  rw [if_neg (by omega), if_neg (by omega), if_neg (by omega), if_pos (by omega), if_pos (show (218 + 6 * c + 1 - 218) % 6 = 1 ∧ 3 = 3 by omega)]
  rfl
theorem RA_z {f : Nat → Int32} {x : Nat} : RA f m x [] := fun j h => absurd h (Nat.not_lt_zero _)
theorem Rng_z (hm : 0 < m) (h3 : I p 3 = nI (m - 1)) (h5 : I p 5 = 0) (h4 : I p 4 = 0) : Rng I p m [] := ⟨Nat.zero_le _, h3, h5, 0, hm, h4, RA_z, RA_z, RA_z⟩
theorem bt_z : ∀ k : Fin 16, bt 0 k.val = false := by decide
theorem KyC_z (h2 : I a 2 = 0) (h3 : ∀ k, I (a + 1) k = 0) (h4 : ∀ k, I (a + 2) k = 0) : KyC I a (fun _ => none) := fun k => ⟨by rw [h2]; exact bt_z k, h3 _, h4 _⟩
theorem SC_0 (hI : ∀ a, a < 550 → ∀ j, I a j = xpI a j) (sh : shSm T) (shx : shX T) (hn : tN T = 550) (hs : tS T ≤ 60000) (r18 : tR T 18 0 = some 19) (k19 : tK T 19 = 100) (l19 : tL T 19 = 64) (r1 : tR T 1 0 = some 2) (k2 : tK T 2 = 101) (l2 : tL T 2 = 16) (r3 : tR T 3 0 = some 4) (k4 : tK T 4 = 101) (l4 : tL T 4 = 16) : SC S0 I T := by
  have z : ∀ a j, ((a < 20 ∧ a ≠ 11 ∧ a ≠ 12) ∨ (488 ≤ a ∧ a < 550 ∧ a ≠ 492 ∧ a ≠ 494 ∧ a ≠ 497)) → I a j = 0 := fun a j h => (hI a (by omega) j).trans (xp_z (by omega))
  have zo : ∀ {o r j a : Nat}, o < 6 → r < 33 → r ≠ 0 → (j ≠ 3 ∨ (r ≠ 14 ∧ r ≠ 19 ∧ r ≠ 24 ∧ r ≠ 29)) → a = 20 + 33 * o + r → I a j = 0 := fun {o r j a} ho hr h1 h2 ha => (hI a (by omega) j).trans (xp_op ho hr h1 h2 ha)
  have zc : ∀ {c r j a : Nat}, c < 45 → r < 6 → (r ≠ 1 ∨ j ≠ 3) → a = 218 + 6 * c + r → I a j = 0 := fun {c r j a} hc hr h ha => (hI a (by omega) j).trans (xp_c hc hr h ha)
  have ky : ∀ {o r : Nat}, o < 6 → (r = 2 ∨ r = 5 ∨ r = 8 ∨ r = 11) → KyC I (20 + 33 * o + r) (fun _ => none) := fun {o r} ho hr => KyC_z (zo (r := r) ho (by omega) (by omega) (by omega) rfl) (fun k => zo (r := r + 1) ho (by omega) (by omega) (by omega) rfl) (fun k => zo (r := r + 2) ho (by omega) (by omega) (by omega) rfl)
  have rn : ∀ {o r a : Nat}, o < 6 → (r = 14 ∨ r = 19 ∨ r = 24 ∨ r = 29) → a = 20 + 33 * o + r → Rng I a 4 [] := fun {o r a} ho hr ha => Rng_z (by omega) ((hI a (by omega) 3).trans (xp_o3 ho hr ha)) (zo ho (by omega) (by omega) (by omega) ha) (zo ho (by omega) (by omega) (by omega) ha)
  have z0 : ∀ {o j : Nat}, o < 6 → j ≠ 6 → j ≠ 9 → I (20 + 33 * o) j = 0 := fun {o j} ho h6 h9 => (hI _ (by omega) j).trans (xp_o0 ho h6 h9)
  have hCT : CT E0 D00 (fun _ _ => none) Q00 I T := by
    refine ⟨⟨z 10 5 (by omega), ⟨(hI 11 (by omega) 0).trans (by decide), (hI 11 (by omega) 1).trans (by decide), (hI 11 (by omega) 2).trans (by decide)⟩, (hI 11 (by omega) 3).trans (by decide), fun o ho => ?_⟩, fun c hc => ?_, fun o i ho hi => ?_, fun o ho => ky ho (by omega), fun o ho => ky ho (by omega), ⟨fun _ => rfl, fun o i v hd => by cases hd⟩, fun o ho => ⟨z0 ho (by omega) (by omega), z0 ho (by omega) (by omega), z0 ho (by omega) (by omega), z0 ho (by omega) (by omega)⟩, ⟨z 10 6 (by omega), z 10 9 (by omega), z 10 12 (by omega), fun w => absurd rfl w⟩, ?_, ⟨19, r18, k19, Or.inl rfl, by omega, by omega, by omega, z 18 1 (by omega), z 18 2 (by omega), fun t _ => z 19 t (by omega), fun _ _ => rfl⟩, ⟨fun o ho => ky ho (by omega), fun o i ho hi => zo (r := 18 + 5 * i) ho (by omega) (by omega) (by omega) (by omega), z 10 7 (by omega), z 10 8 (by omega), z 10 10 (by omega), z 10 11 (by omega), z 10 14 (by omega)⟩⟩
    · have ho1 : o ≤ 1 := ho
      rcases (by omega : o = 0 ∨ o = 1) with rfl | rfl
      · exact ⟨(hI (20 + 33 * 0) (by omega) 6).trans (by decide), (hI (20 + 33 * 0) (by omega) 7).trans (by decide), (hI (20 + 33 * 0) (by omega) 8).trans (by decide), (hI (20 + 33 * 0) (by omega) 9).trans (by decide)⟩
      · exact ⟨(hI (20 + 33 * 1) (by omega) 6).trans (by decide), (hI (20 + 33 * 1) (by omega) 7).trans (by decide), (hI (20 + 33 * 1) (by omega) 8).trans (by decide), (hI (20 + 33 * 1) (by omega) 9).trans (by decide)⟩
    · exact ⟨Rng_z (by omega) ((hI _ (by omega) 3).trans (xp_c3 hc)) (zc (r := 1) hc (by omega) (by omega) rfl) (zc (r := 1) hc (by omega) (by omega) rfl), zc (r := 0) hc (by omega) (by omega) rfl, zc (r := 0) hc (by omega) (by omega) rfl, zc (r := 0) hc (by omega) (by omega) rfl, 0, by omega, zc (r := 0) hc (by omega) (by omega) rfl, RA_z⟩
    · exact ⟨rn (r := 19 + 5 * i) ho (by omega) (by omega), zo (r := 18 + 5 * i) ho (by omega) (by omega) (by omega) (by omega), zo (r := 18 + 5 * i) ho (by omega) (by omega) (by omega) (by omega), zo (r := 18 + 5 * i) ho (by omega) (by omega) (by omega) (by omega), zo (r := 18 + 5 * i) ho (by omega) (by omega) (by omega) (by omega)⟩
    · exact Rng_z (by omega) ((hI 12 (by omega) 3).trans (by decide)) ((hI 12 (by omega) 5).trans (by decide)) ((hI 12 (by omega) 4).trans (by decide))
  refine ⟨sh, shx, by omega, ⟨19, 2, 4, r18, r1, r3, by omega, by omega, by omega, by omega⟩, fun tv wv h1 h2 => ?_, ⟨_, hCT⟩, ⟨2, r1, k2, Or.inl rfl, by omega, Nat.zero_le _, by omega, by omega, z 1 1 (by omega), z 1 3 (by omega), fun j h => absurd h (Nat.not_lt_zero _)⟩, ⟨4, r3, k4, Or.inl rfl, by omega, Nat.zero_le _, by omega, by omega, z 3 1 (by omega), z 3 3 (by omega), fun j h => absurd h (Nat.not_lt_zero _)⟩, ⟨z 489 3 (by omega), fun j h => absurd h (Nat.not_lt_zero _)⟩, ⟨0, Nat.zero_le _, z 488 1 (by omega), fun o ho => ?_, fun o ho => ⟨_, ky ho (by omega)⟩⟩, fun o ho => ⟨[], rn ho (by omega) rfl⟩⟩
  · rw [r1] at h1
    rw [r3] at h2
    cases h1
    cases h2
    decide
  · have ho1 : o ≤ 1 := ho
    exact ky (by omega) (by omega)
theorem SM_0 (hI : ∀ a, a < 550 → ∀ j, I a j = xpI a j) (hJ : (tJ T 492 59).toInt32 = 0) : SM S0 I T := by
  have z : ∀ a j, (493 ≤ a ∧ a < 550 ∧ a ≠ 494 ∧ a ≠ 497) → I a j = 0 := fun a j h => (hI a (by omega) j).trans (xp_z (by omega))
  have y : ∀ j (v : Int32), xpI 492 j = v → I 492 j = v := fun j v h => (hI 492 (by omega) j).trans h
  have ky : ∀ p q u : Nat, (493 ≤ p ∧ p < 550 ∧ p ≠ 494 ∧ p ≠ 497) → KyM I p q u (fun _ _ => none) := fun p q u h o k ho => ⟨z p _ h, fun x e => by cases e⟩
  refine ⟨⟨⟨y 2 _ (by decide), y 7 _ (by decide), y 8 _ (by decide), y 9 _ (by decide), y 10 _ (by decide), y 13 _ (by decide), fun o ho => ?_, fun j h => absurd h (Nat.not_lt_zero _)⟩, fun c hc => ⟨z 523 c (by omega), z 524 c (by omega), z 528 c (by omega), fun j h => absurd h (Nat.not_lt_zero _), 0, by omega, z 529 c (by omega), fun _ => rfl, fun j h => absurd h (Nat.not_lt_zero _)⟩, fun s hs => ⟨⟨z 516 s (by omega), fun j h => absurd h (Nat.not_lt_zero _)⟩, z 520 s (by omega), z 521 s (by omega), z 522 s (by omega), z 513 s (by omega)⟩, ky 504 507 510 (by omega), fun o ho => ⟨z 500 o (by omega), z 501 o (by omega), z 502 o (by omega), z 503 o (by omega)⟩, ⟨y 14 _ (by decide), y 15 _ (by decide), fun w => absurd rfl w⟩, ⟨fun t _ => z 534 t (by omega), y 58 _ (by decide), hJ⟩, ⟨ky 505 508 511 (by omega), fun s _ => z 514 s (by omega)⟩, ⟨ky 506 509 512 (by omega), fun s _ => z 515 s (by omega), y 16 _ (by decide), y 17 _ (by decide), y 18 _ (by decide), y 19 _ (by decide), y 36 _ (by decide), y 37 _ (by decide)⟩⟩, ⟨y 1 _ (by decide), fun j h => absurd h (Nat.not_lt_zero _)⟩, ⟨y 80 _ (by decide), fun j h => absurd h (Nat.not_lt_zero _)⟩, ⟨y 77 _ (by decide), fun j h => absurd h (Nat.not_lt_zero _)⟩⟩
  have ho1 : o ≤ 1 := ho
  rcases (by omega : o = 0 ∨ o = 1) with rfl | rfl
  · exact ⟨(hI 494 (by omega) 0).trans (by decide), z 495 0 (by omega), z 496 0 (by omega), (hI 497 (by omega) 0).trans (by decide)⟩
  · exact ⟨(hI 494 (by omega) 1).trans (by decide), z 495 1 (by omega), z 496 1 (by omega), (hI 497 (by omega) 1).trans (by decide)⟩
theorem law_good (hX : X.1 ≤ 2560) : Good (f_w_law (st0 X)) := by
  obtain ⟨W, h1, hI, a1, a2, a3, a4, a5, a6, a7, a8, a9, a10, a11, a12, a13, a14, a15⟩ := start_ex
  obtain ⟨I, J, R, K, L, N, S, Y⟩ := W
  rw [h1]
  have hA : AL X S0 I (J, R, K, L, N, S, X) 0 := ⟨SC_0 hI a1 a2 a4 a5 a6 a7 a8 a9 a10 a11 a12 a13 a14, SM_0 hI a15, a3, PD_0, rfl⟩
  exact law_loop hX 513 FU 0 S0 I (J, R, K, L, N, S, X) (by omega) (by unfold FU; omega) (by omega) hA
end
