/-! THE START: its shape, its rows -/
def V0 : Mem := (f_x_init 0 (nC (st0 (0, fun _ => 0)) 12 6)).getD (st0 (0, fun _ => 0))
theorem V0_s : (f_x_init 0 (nC (st0 (0, fun _ => 0)) 12 6)).isSome = true ∧ mn V0 = 492 := by decide +kernel
theorem W0_s1 : tK W0.2 10 = 11 ∧ tR W0.2 10 0 = some 11 ∧ tR W0.2 10 1 = some 12 ∧ tR W0.2 10 2 = some 16 ∧ tR W0.2 10 3 = some 17 ∧ tR W0.2 10 4 = some 18 ∧ tK W0.2 11 = 10 ∧ tK W0.2 16 = 105 ∧ tL W0.2 16 = 6 ∧ tK W0.2 17 = 103 ∧ tL W0.2 17 = 45 ∧ tK W0.2 18 = 5 := by decide +kernel
theorem W0_s2 : shRc W0.2 12 64 ∧ (∀ o, o < 6 → tR W0.2 16 o = some (20 + 33 * o)) ∧ (∀ c, c < 45 → tR W0.2 17 c = some (218 + 6 * c)) := by
  unfold shRc
  decide +kernel
theorem W0_s3 : ∀ o, o < 6 → tK W0.2 (20 + 33 * o) = 6 ∧ tR W0.2 (20 + 33 * o) 0 = some (20 + 33 * o + 1) ∧ tK W0.2 (20 + 33 * o + 1) = 104 ∧ tL W0.2 (20 + 33 * o + 1) = 3 ∧ (∀ i, i < 3 → tR W0.2 (20 + 33 * o + 1) i = some (20 + 33 * o + 18 + 5 * i)) ∧ tR W0.2 (20 + 33 * o) 1 = some (20 + 33 * o + 2) ∧ tR W0.2 (20 + 33 * o) 2 = some (20 + 33 * o + 5) ∧ tR W0.2 (20 + 33 * o) 3 = some (20 + 33 * o + 8) ∧ tR W0.2 (20 + 33 * o) 4 = some (20 + 33 * o + 11) ∧ tR W0.2 (20 + 33 * o) 5 = some (20 + 33 * o + 14) := by decide +kernel
theorem W0_s4 : ∀ o, o < 6 → shKy W0.2 (20 + 33 * o + 2) ∧ shKy W0.2 (20 + 33 * o + 5) := by
  unfold shKy
  decide +kernel
theorem W0_s5 : ∀ o, o < 6 → shKy W0.2 (20 + 33 * o + 8) ∧ shKy W0.2 (20 + 33 * o + 11) := by
  unfold shKy
  decide +kernel
theorem W0_s6 : ∀ o, o < 6 → shRc W0.2 (20 + 33 * o + 14) 4 := by
  unfold shRc
  decide +kernel
theorem W0_s7 : ∀ o, o < 6 → ∀ i, i < 3 → shIn W0.2 (20 + 33 * o + 18 + 5 * i) := by
  unfold shIn shRc
  decide +kernel
theorem W0_s8 : ∀ c, c < 45 → (tK W0.2 (218 + 6 * c) = 1 ∧ tR W0.2 (218 + 6 * c) 0 = some 11 ∧ tR W0.2 (218 + 6 * c) 1 = some (218 + 6 * c + 1) ∧ tR W0.2 (218 + 6 * c) 2 = some (218 + 6 * c + 5) ∧ tK W0.2 (218 + 6 * c + 5) = 100 ∧ tL W0.2 (218 + 6 * c + 5) = 4) ∧ shRc W0.2 (218 + 6 * c + 1) 32 := by
  unfold shRc
  decide +kernel
theorem W0_sm : shSm W0.2 := by
  obtain ⟨a1, a2, a3, a4, a5, a6, a7, a8, a9, a10, a11, a12⟩ := W0_s1
  obtain ⟨b1, b2, b3⟩ := W0_s2
  refine ⟨a1, a2, a3, a4, a5, a6, a7, a8, a9, a10, a11, a12, b1, b2, b3, fun o ho => ?_, fun c hc => ?_⟩
  · obtain ⟨c1, c2, c3, c4, c5, c6, c7, c8, c9, c10⟩ := W0_s3 o ho
    exact ⟨c1, c2, c3, c4, c5, c6, c7, c8, c9, c10, (W0_s4 o ho).1, (W0_s4 o ho).2, (W0_s5 o ho).1, (W0_s5 o ho).2, W0_s6 o ho, fun i hi => W0_s7 o ho i hi⟩
  · obtain ⟨⟨c1, c2, c3, c4, c5, c6⟩, c7⟩ := W0_s8 c hc
    exact ⟨c1, c2, c3, c4, c5, c6, a7, Nat.le_trans (by decide) (Nat.le_add_right 218 (6 * c)), c7⟩
theorem W0_sx : (tK W0.2 0 = 12 ∧ tR W0.2 0 0 = some 1 ∧ tR W0.2 0 1 = some 3 ∧ tR W0.2 0 2 = some 5 ∧ tR W0.2 0 3 = some 10 ∧ tR W0.2 0 4 = some 488 ∧ tR W0.2 0 5 = some 489 ∧ tK W0.2 1 = 14 ∧ tK W0.2 3 = 14 ∧ tK W0.2 5 = 8 ∧ tR W0.2 5 0 = some 1 ∧ tR W0.2 5 1 = some 6 ∧ tR W0.2 5 2 = some 7 ∧ tR W0.2 5 3 = some 8 ∧ tR W0.2 5 4 = some 9) ∧ (∀ a, a < 10 → 6 ≤ a → tK W0.2 a = 100 ∧ tL W0.2 a = 4) ∧ tK W0.2 488 = 7 ∧ tR W0.2 488 0 = some 10 ∧ tK W0.2 489 = 2 ∧ tR W0.2 489 0 = some 10 ∧ tR W0.2 489 1 = some 490 ∧ tR W0.2 489 2 = some 491 ∧ tK W0.2 490 = 100 ∧ tL W0.2 490 = 8 ∧ tK W0.2 491 = 100 ∧ tL W0.2 491 = 8 := by decide +kernel
theorem W0_shX : shX W0.2 := by
  obtain ⟨⟨a1, a2, a3, a4, a5, a6, a7, a8, a9, a10, a11, a12, a13, a14, a15⟩, h, hr⟩ := W0_sx
  exact ⟨a1, a2, a3, a4, a5, a6, a7, a8, a9, a10, a11, a12, a13, a14, a15, fun a h1 h2 => h a h2 h1, hr⟩
theorem W0_m0 : tK W0.2 492 = 13 ∧ (tR W0.2 492 0 = some 493 ∧ tK W0.2 493 = 100 ∧ tL W0.2 493 = 60) ∧ (tR W0.2 492 3 = some 494 ∧ tK W0.2 494 = 100 ∧ tL W0.2 494 = 6) ∧ (tR W0.2 492 4 = some 495 ∧ tK W0.2 495 = 100 ∧ tL W0.2 495 = 6) ∧ (tR W0.2 492 5 = some 496 ∧ tK W0.2 496 = 100 ∧ tL W0.2 496 = 6) ∧ (tR W0.2 492 6 = some 497 ∧ tK W0.2 497 = 100 ∧ tL W0.2 497 = 6) ∧ (tR W0.2 492 11 = some 498 ∧ tK W0.2 498 = 100 ∧ tL W0.2 498 = 60) ∧ (tR W0.2 492 12 = some 499 ∧ tK W0.2 499 = 100 ∧ tL W0.2 499 = 60) ∧ (tR W0.2 492 20 = some 500 ∧ tK W0.2 500 = 100 ∧ tL W0.2 500 = 6) ∧ (tR W0.2 492 21 = some 501 ∧ tK W0.2 501 = 100 ∧ tL W0.2 501 = 6) := by decide +kernel
theorem W0_m1 : (tR W0.2 492 22 = some 502 ∧ tK W0.2 502 = 100 ∧ tL W0.2 502 = 6) ∧ (tR W0.2 492 23 = some 503 ∧ tK W0.2 503 = 100 ∧ tL W0.2 503 = 6) ∧ (tR W0.2 492 24 = some 504 ∧ tK W0.2 504 = 102 ∧ tL W0.2 504 = 96) ∧ (tR W0.2 492 25 = some 505 ∧ tK W0.2 505 = 102 ∧ tL W0.2 505 = 96) ∧ (tR W0.2 492 26 = some 506 ∧ tK W0.2 506 = 102 ∧ tL W0.2 506 = 96) ∧ (tR W0.2 492 27 = some 507 ∧ tK W0.2 507 = 100 ∧ tL W0.2 507 = 96) ∧ (tR W0.2 492 28 = some 508 ∧ tK W0.2 508 = 100 ∧ tL W0.2 508 = 96) ∧ (tR W0.2 492 29 = some 509 ∧ tK W0.2 509 = 100 ∧ tL W0.2 509 = 96) ∧ (tR W0.2 492 30 = some 510 ∧ tK W0.2 510 = 100 ∧ tL W0.2 510 = 96) := by decide +kernel
theorem W0_m2 : (tR W0.2 492 31 = some 511 ∧ tK W0.2 511 = 100 ∧ tL W0.2 511 = 96) ∧ (tR W0.2 492 32 = some 512 ∧ tK W0.2 512 = 100 ∧ tL W0.2 512 = 96) ∧ (tR W0.2 492 33 = some 513 ∧ tK W0.2 513 = 100 ∧ tL W0.2 513 = 18) ∧ (tR W0.2 492 34 = some 514 ∧ tK W0.2 514 = 100 ∧ tL W0.2 514 = 18) ∧ (tR W0.2 492 35 = some 515 ∧ tK W0.2 515 = 100 ∧ tL W0.2 515 = 18) ∧ (tR W0.2 492 39 = some 516 ∧ tK W0.2 516 = 100 ∧ tL W0.2 516 = 18) ∧ (tR W0.2 492 40 = some 517 ∧ tK W0.2 517 = 100 ∧ tL W0.2 517 = 54) ∧ (tR W0.2 492 41 = some 518 ∧ tK W0.2 518 = 100 ∧ tL W0.2 518 = 54) ∧ (tR W0.2 492 42 = some 519 ∧ tK W0.2 519 = 100 ∧ tL W0.2 519 = 54) := by decide +kernel
theorem W0_m3 : (tR W0.2 492 43 = some 520 ∧ tK W0.2 520 = 100 ∧ tL W0.2 520 = 18) ∧ (tR W0.2 492 44 = some 521 ∧ tK W0.2 521 = 100 ∧ tL W0.2 521 = 18) ∧ (tR W0.2 492 45 = some 522 ∧ tK W0.2 522 = 102 ∧ tL W0.2 522 = 18) ∧ (tR W0.2 492 46 = some 523 ∧ tK W0.2 523 = 100 ∧ tL W0.2 523 = 54) ∧ (tR W0.2 492 47 = some 524 ∧ tK W0.2 524 = 100 ∧ tL W0.2 524 = 54) ∧ (tR W0.2 492 48 = some 525 ∧ tK W0.2 525 = 100 ∧ tL W0.2 525 = 216) ∧ (tR W0.2 492 49 = some 526 ∧ tK W0.2 526 = 100 ∧ tL W0.2 526 = 216) ∧ (tR W0.2 492 50 = some 527 ∧ tK W0.2 527 = 100 ∧ tL W0.2 527 = 216) ∧ (tR W0.2 492 51 = some 528 ∧ tK W0.2 528 = 100 ∧ tL W0.2 528 = 54) := by decide +kernel
theorem W0_m4 : (tR W0.2 492 52 = some 529 ∧ tK W0.2 529 = 100 ∧ tL W0.2 529 = 54) ∧ (tR W0.2 492 53 = some 530 ∧ tK W0.2 530 = 100 ∧ tL W0.2 530 = 216) ∧ (tR W0.2 492 54 = some 531 ∧ tK W0.2 531 = 100 ∧ tL W0.2 531 = 864) ∧ (tR W0.2 492 55 = some 532 ∧ tK W0.2 532 = 100 ∧ tL W0.2 532 = 864) ∧ (tR W0.2 492 56 = some 533 ∧ tK W0.2 533 = 100 ∧ tL W0.2 533 = 864) ∧ (tR W0.2 492 57 = some 534 ∧ tK W0.2 534 = 100 ∧ tL W0.2 534 = 40000) ∧ (tR W0.2 492 62 = some 535 ∧ tK W0.2 535 = 100 ∧ tL W0.2 535 = 6) ∧ (tR W0.2 492 63 = some 536 ∧ tK W0.2 536 = 100 ∧ tL W0.2 536 = 6) ∧ (tR W0.2 492 64 = some 537 ∧ tK W0.2 537 = 100 ∧ tL W0.2 537 = 6) := by decide +kernel
theorem W0_m5 : (tR W0.2 492 65 = some 538 ∧ tK W0.2 538 = 100 ∧ tL W0.2 538 = 6) ∧ (tR W0.2 492 66 = some 539 ∧ tK W0.2 539 = 100 ∧ tL W0.2 539 = 3) ∧ (tR W0.2 492 67 = some 540 ∧ tK W0.2 540 = 100 ∧ tL W0.2 540 = 3) ∧ (tR W0.2 492 69 = some 541 ∧ tK W0.2 541 = 102 ∧ tL W0.2 541 = 96) ∧ (tR W0.2 492 70 = some 542 ∧ tK W0.2 542 = 100 ∧ tL W0.2 542 = 96) ∧ (tR W0.2 492 71 = some 543 ∧ tK W0.2 543 = 100 ∧ tL W0.2 543 = 96) ∧ (tR W0.2 492 72 = some 544 ∧ tK W0.2 544 = 100 ∧ tL W0.2 544 = 30) ∧ (tR W0.2 492 73 = some 545 ∧ tK W0.2 545 = 100 ∧ tL W0.2 545 = 30) ∧ (tR W0.2 492 74 = some 546 ∧ tK W0.2 546 = 100 ∧ tL W0.2 546 = 30) := by decide +kernel
theorem W0_m6 : (tR W0.2 492 75 = some 547 ∧ tK W0.2 547 = 100 ∧ tL W0.2 547 = 8) ∧ (tR W0.2 492 76 = some 548 ∧ tK W0.2 548 = 100 ∧ tL W0.2 548 = 8) ∧ (tR W0.2 492 79 = some 549 ∧ tK W0.2 549 = 100 ∧ tL W0.2 549 = 80) := by decide +kernel
theorem W0_m : shM W0.2 := by
  obtain ⟨m0_0, m0_1, m0_2, m0_3, m0_4, m0_5, m0_6, m0_7, m0_8, m0_9⟩ := W0_m0
  obtain ⟨m1_0, m1_1, m1_2, m1_3, m1_4, m1_5, m1_6, m1_7, m1_8⟩ := W0_m1
  obtain ⟨m2_0, m2_1, m2_2, m2_3, m2_4, m2_5, m2_6, m2_7, m2_8⟩ := W0_m2
  obtain ⟨m3_0, m3_1, m3_2, m3_3, m3_4, m3_5, m3_6, m3_7, m3_8⟩ := W0_m3
  obtain ⟨m4_0, m4_1, m4_2, m4_3, m4_4, m4_5, m4_6, m4_7, m4_8⟩ := W0_m4
  obtain ⟨m5_0, m5_1, m5_2, m5_3, m5_4, m5_5, m5_6, m5_7, m5_8⟩ := W0_m5
  obtain ⟨m6_0, m6_1, m6_2⟩ := W0_m6
  exact ⟨m0_0, m0_1, m0_2, m0_3, m0_4, m0_5, m0_6, m0_7, m0_8, m0_9, m1_0, m1_1, m1_2, m1_3, m1_4, m1_5, m1_6, m1_7, m1_8, m2_0, m2_1, m2_2, m2_3, m2_4, m2_5, m2_6, m2_7, m2_8, m3_0, m3_1, m3_2, m3_3, m3_4, m3_5, m3_6, m3_7, m3_8, m4_0, m4_1, m4_2, m4_3, m4_4, m4_5, m4_6, m4_7, m4_8, m5_0, m5_1, m5_2, m5_3, m5_4, m5_5, m5_6, m5_7, m5_8, m6_0, m6_1, m6_2⟩
theorem W0_n : tN W0.2 = 550 ∧ tS W0.2 ≤ 60000 ∧ tR W0.2 18 0 = some 19 ∧ tK W0.2 19 = 100 ∧ tL W0.2 19 = 64 ∧ tR W0.2 1 0 = some 2 ∧ tK W0.2 2 = 101 ∧ tL W0.2 2 = 16 ∧ tR W0.2 3 0 = some 4 ∧ tK W0.2 4 = 101 ∧ tL W0.2 4 = 16 ∧ (tJ W0.2 492 59).toInt32 = 0 := by decide +kernel
theorem W0_z : ∀ a, a < 550 → ∀ j, j < 11 → wr (mK W0 a) j = false → xpI a j = 0 := by decide +kernel
theorem xp_11 {a j : Nat} (hj : 11 ≤ j) : xpI a j = 0 := by
  have gl : ∀ l : List Int32, l.length ≤ 11 → l.getD j 0 = 0 := fun l hl => by
    rw [List.getD_eq_getElem?_getD, List.getElem?_eq_none (by omega)]
    rfl
  unfold xpI
  rw [gl _ (by decide), gl _ (by decide), gl _ (by decide), gl _ (by decide), if_neg (show ¬ j = 3 by omega), if_neg (show ¬ j = 6 by omega), if_neg (show ¬ j = 9 by omega)]
  repeat' split
  all_goals first | rfl | omega
theorem sg_some {o : Option Mem} {d : Mem} (h : o.isSome = true) : o = some (o.getD d) := by
  cases o with
  | none => cases h
  | some x => rfl
theorem NZ_st {X : Nat × (Nat → Int32)} : NZ (st0 X) := fun _ _ _ => rfl
theorem wr_11 {kd j : Nat} (hj : 11 ≤ j) : wr kd j = false := by
  unfold wr
  rw [decide_eq_false (show ¬ (kd = 9 ∧ j = 3) by omega), decide_eq_false (show ¬ (kd = 6 ∧ 6 ≤ j ∧ j ≤ 9) by omega), decide_eq_false (show ¬ (kd = 10 ∧ j < 4) by omega), decide_eq_false (show ¬ (kd = 13 ∧ 7 ≤ j ∧ j ≤ 10) by omega), decide_eq_false (show ¬ (kd = 14 ∧ j = 1) by omega), decide_eq_false (show ¬ (kd = 100 ∧ j < 2) by omega)]
  rfl
theorem W0_e : prog (st0 (0, fun _ => 0)) = some W0 := sg_some W0_s
theorem V0_e : f_x_init 0 (nC (st0 (0, fun _ => 0)) 12 6) = some V0 := sg_some V0_s.1
theorem W0_all : ∀ a, a < 550 → ∀ j, mI W0 a j = xpI a j := fun a ha j => by
  have hz : NZ W0 := k_prog.2 _ _ NZ_st W0_e
  by_cases hj : j < 11
  · cases hw : wr (mK W0 a) j with
    | true => exact W0_I a ha j hj hw
    | false => rw [hz a j hw, W0_z a ha j hj hw]
  · rw [hz a j (wr_11 (by omega)), xp_11 (by omega)]
theorem m_ex : ∀ V W : Mem, f_x_init 0 (nC (st0 (0, fun _ => 0)) 12 6) = some V → prog (st0 (0, fun _ => 0)) = some W → f_m_init 492 (nC V 13 81) = some W := fun V W h1 h2 => by
  have h2 : cV (f_x_init 0 (nC (st0 (0, fun _ => 0)) 12 6)) (fun M3 => cV (f_m_init 492 (nC M3 13 81)) fun M6 => some M6) = some W := h2
  rw [h1, cV_x] at h2
  cases hm : f_m_init 492 (nC V 13 81) with
  | none => rw [hm] at h2; cases h2
  | some M =>
    rw [hm, cV_x] at h2
    exact h2
theorem law_st : ∀ (V W : Mem) (X : Nat × (Nat → Int32)), f_x_init 0 (nC (st0 (0, fun _ => 0)) 12 6) = some V → prog (st0 (0, fun _ => 0)) = some W → mn V = 492 → f_w_law (st0 X) = f_w_law_18 FU 0 492 0 (sX W X) := fun V W X h1 h2 h3 => by
  have h4 := m_ex V W h1 h2
  have e1 : f_x_init 0 (nC (st0 X) 12 6) = some (sX V X) := by
    have := k_x (p := 0).1 (nC (st0 (0, fun _ => 0)) 12 6) X
    rw [h1] at this
    exact this
  have e2 : f_m_init 492 (nC (sX V X) 13 81) = some (sX W X) := by
    have := k_m (p := 492).1 (nC V 13 81) X
    rw [h4] at this
    exact this
  have e3 : mn (sX V X) = 492 := h3
  have e0 : mn (st0 X) = 0 := rfl
  show cV (f_x_init (mn (st0 X)) (nC (st0 X) 12 6)) (fun M3 => cV (f_m_init (mn M3) (nC M3 13 81)) fun M6 => f_w_law_18 FU (mn (st0 X)) (mn M3) 0 M6) = f_w_law_18 FU 0 492 0 (sX W X)
  rw [e0, e1, cV_x, e3, e2, cV_x]
theorem start_ex : ∃ W : Mem, (∀ X, f_w_law (st0 X) = f_w_law_18 FU 0 492 0 (sX W X)) ∧ (∀ a, a < 550 → ∀ j, mI W a j = xpI a j) ∧ shSm W.2 ∧ shX W.2 ∧ shM W.2 ∧ tN W.2 = 550 ∧ tS W.2 ≤ 60000 ∧ tR W.2 18 0 = some 19 ∧ tK W.2 19 = 100 ∧ tL W.2 19 = 64 ∧ tR W.2 1 0 = some 2 ∧ tK W.2 2 = 101 ∧ tL W.2 2 = 16 ∧ tR W.2 3 0 = some 4 ∧ tK W.2 4 = 101 ∧ tL W.2 4 = 16 ∧ (tJ W.2 492 59).toInt32 = 0 := ⟨W0, fun X => law_st V0 W0 X V0_e W0_e V0_s.2, W0_all, W0_sm, W0_shX, W0_m, W0_n⟩
