/-! THE REFERENCE: its shape; each of its rows read and written -/
def shMr (T : Tl) (f a kd len : Nat) : Prop := tR T 492 f = some a ∧ tK T a = kd ∧ tL T a = len
def shM (T : Tl) : Prop := tK T 492 = 13 ∧ shMr T 0 493 100 60 ∧ shMr T 3 494 100 6 ∧ shMr T 4 495 100 6 ∧ shMr T 5 496 100 6 ∧ shMr T 6 497 100 6 ∧ shMr T 11 498 100 60 ∧ shMr T 12 499 100 60 ∧ shMr T 20 500 100 6 ∧ shMr T 21 501 100 6 ∧ shMr T 22 502 100 6 ∧ shMr T 23 503 100 6 ∧ shMr T 24 504 102 96 ∧ shMr T 25 505 102 96 ∧ shMr T 26 506 102 96 ∧ shMr T 27 507 100 96 ∧ shMr T 28 508 100 96 ∧ shMr T 29 509 100 96 ∧ shMr T 30 510 100 96 ∧ shMr T 31 511 100 96 ∧ shMr T 32 512 100 96 ∧ shMr T 33 513 100 18 ∧ shMr T 34 514 100 18 ∧ shMr T 35 515 100 18 ∧ shMr T 39 516 100 18 ∧ shMr T 40 517 100 54 ∧ shMr T 41 518 100 54 ∧ shMr T 42 519 100 54 ∧ shMr T 43 520 100 18 ∧ shMr T 44 521 100 18 ∧ shMr T 45 522 102 18 ∧ shMr T 46 523 100 54 ∧ shMr T 47 524 100 54 ∧ shMr T 48 525 100 216 ∧ shMr T 49 526 100 216 ∧ shMr T 50 527 100 216 ∧ shMr T 51 528 100 54 ∧ shMr T 52 529 100 54 ∧ shMr T 53 530 100 216 ∧ shMr T 54 531 100 864 ∧ shMr T 55 532 100 864 ∧ shMr T 56 533 100 864 ∧ shMr T 57 534 100 40000 ∧ shMr T 62 535 100 6 ∧ shMr T 63 536 100 6 ∧ shMr T 64 537 100 6 ∧ shMr T 65 538 100 6 ∧ shMr T 66 539 100 3 ∧ shMr T 67 540 100 3 ∧ shMr T 69 541 102 96 ∧ shMr T 70 542 100 96 ∧ shMr T 71 543 100 96 ∧ shMr T 72 544 100 30 ∧ shMr T 73 545 100 30 ∧ shMr T 74 546 100 30 ∧ shMr T 75 547 100 8 ∧ shMr T 76 548 100 8 ∧ shMr T 79 549 100 80
def seJ (T : Tl) (a j : Nat) (v : Int64) : Tl := (u2 (tJ T) a j v, T.2)
section
variable {α : Type} {T : Tl} {I : Iw} {n j m : Nat} {v : Int32}
theorem pJ_t {c a : Nat} {w : Int64} {k : Mem → Option α} (h : tK T a = c) : pJ c j ((I, T) : Mem) a w k = k ((I, seJ T a j w) : Mem) := if_pos h
theorem shM.ofJ (sh : shM T) (a j : Nat) (v : Int64) : shM (seJ T a j v) := sh
theorem shM.gI (sh : shM T) {k : Int32 → Option α} : gI 13 j ((I, T) : Mem) 492 k = k (I 492 j) := gI_t sh.1
theorem shM.gJ (sh : shM T) {k : Int64 → Option α} : gJ 13 j ((I, T) : Mem) 492 k = k (tJ T 492 j) := gJ_t sh.1
theorem shM.pI (sh : shM T) {k : Mem → Option α} : pI 13 j ((I, T) : Mem) 492 v k = k ((u2 I 492 j v, T) : Mem) := pI_t sh.1
theorem shM.pZ (sh : shM T) {k : Mem → Option α} (hm : m < 2) : pZ 13 j ((I, T) : Mem) 492 (nI m) k = k ((u2 I 492 j (nI m), T) : Mem) := pZ_t sh.1 hm
theorem shM.pJ (sh : shM T) {w : Int64} {k : Mem → Option α} : pJ 13 j ((I, T) : Mem) 492 w k = k ((I, seJ T 492 j w) : Mem) := pJ_t sh.1
theorem shM.ck (sh : shM T) {k : Option α} : ck ((I, T) : Mem) 492 13 k = k := ck_t sh.1
theorem shM.g0 (sh : shM T) {k : Nat → Option α} : gA 13 0 ((I, T) : Mem) 492 k = k 493 := by
  rw [gA_t sh.1, (sh.2.1).1]
  rfl
theorem shM.a493 (sh : shM T) {k : Int32 → Option α} (h : n < 60) : aI ((I, T) : Mem) 493 (nI n) k = k (I 493 n) := aI_t (sh.2.1).2.1 (by rw [(sh.2.1).2.2]; exact h) (by omega)
theorem shM.s493 (sh : shM T) {k : Mem → Option α} (h : n < 60) : sI ((I, T) : Mem) 493 (nI n) v k = k ((u2 I 493 n v, T) : Mem) := sI_t (sh.2.1).2.1 (by rw [(sh.2.1).2.2]; exact h) (by omega)
theorem shM.g3 (sh : shM T) {k : Nat → Option α} : gA 13 3 ((I, T) : Mem) 492 k = k 494 := by
  rw [gA_t sh.1, (sh.2.2.1).1]
  rfl
theorem shM.a494 (sh : shM T) {k : Int32 → Option α} (h : n < 6) : aI ((I, T) : Mem) 494 (nI n) k = k (I 494 n) := aI_t (sh.2.2.1).2.1 (by rw [(sh.2.2.1).2.2]; exact h) (by omega)
theorem shM.s494 (sh : shM T) {k : Mem → Option α} (h : n < 6) : sI ((I, T) : Mem) 494 (nI n) v k = k ((u2 I 494 n v, T) : Mem) := sI_t (sh.2.2.1).2.1 (by rw [(sh.2.2.1).2.2]; exact h) (by omega)
theorem shM.g4 (sh : shM T) {k : Nat → Option α} : gA 13 4 ((I, T) : Mem) 492 k = k 495 := by
  rw [gA_t sh.1, (sh.2.2.2.1).1]
  rfl
theorem shM.a495 (sh : shM T) {k : Int32 → Option α} (h : n < 6) : aI ((I, T) : Mem) 495 (nI n) k = k (I 495 n) := aI_t (sh.2.2.2.1).2.1 (by rw [(sh.2.2.2.1).2.2]; exact h) (by omega)
theorem shM.s495 (sh : shM T) {k : Mem → Option α} (h : n < 6) : sI ((I, T) : Mem) 495 (nI n) v k = k ((u2 I 495 n v, T) : Mem) := sI_t (sh.2.2.2.1).2.1 (by rw [(sh.2.2.2.1).2.2]; exact h) (by omega)
theorem shM.g5 (sh : shM T) {k : Nat → Option α} : gA 13 5 ((I, T) : Mem) 492 k = k 496 := by
  rw [gA_t sh.1, (sh.2.2.2.2.1).1]
  rfl
theorem shM.a496 (sh : shM T) {k : Int32 → Option α} (h : n < 6) : aI ((I, T) : Mem) 496 (nI n) k = k (I 496 n) := aI_t (sh.2.2.2.2.1).2.1 (by rw [(sh.2.2.2.2.1).2.2]; exact h) (by omega)
theorem shM.s496 (sh : shM T) {k : Mem → Option α} (h : n < 6) : sI ((I, T) : Mem) 496 (nI n) v k = k ((u2 I 496 n v, T) : Mem) := sI_t (sh.2.2.2.2.1).2.1 (by rw [(sh.2.2.2.2.1).2.2]; exact h) (by omega)
theorem shM.g6 (sh : shM T) {k : Nat → Option α} : gA 13 6 ((I, T) : Mem) 492 k = k 497 := by
  rw [gA_t sh.1, (sh.2.2.2.2.2.1).1]
  rfl
theorem shM.a497 (sh : shM T) {k : Int32 → Option α} (h : n < 6) : aI ((I, T) : Mem) 497 (nI n) k = k (I 497 n) := aI_t (sh.2.2.2.2.2.1).2.1 (by rw [(sh.2.2.2.2.2.1).2.2]; exact h) (by omega)
theorem shM.s497 (sh : shM T) {k : Mem → Option α} (h : n < 6) : sI ((I, T) : Mem) 497 (nI n) v k = k ((u2 I 497 n v, T) : Mem) := sI_t (sh.2.2.2.2.2.1).2.1 (by rw [(sh.2.2.2.2.2.1).2.2]; exact h) (by omega)
theorem shM.g11 (sh : shM T) {k : Nat → Option α} : gA 13 11 ((I, T) : Mem) 492 k = k 498 := by
  rw [gA_t sh.1, (sh.2.2.2.2.2.2.1).1]
  rfl
theorem shM.a498 (sh : shM T) {k : Int32 → Option α} (h : n < 60) : aI ((I, T) : Mem) 498 (nI n) k = k (I 498 n) := aI_t (sh.2.2.2.2.2.2.1).2.1 (by rw [(sh.2.2.2.2.2.2.1).2.2]; exact h) (by omega)
theorem shM.s498 (sh : shM T) {k : Mem → Option α} (h : n < 60) : sI ((I, T) : Mem) 498 (nI n) v k = k ((u2 I 498 n v, T) : Mem) := sI_t (sh.2.2.2.2.2.2.1).2.1 (by rw [(sh.2.2.2.2.2.2.1).2.2]; exact h) (by omega)
theorem shM.g12 (sh : shM T) {k : Nat → Option α} : gA 13 12 ((I, T) : Mem) 492 k = k 499 := by
  rw [gA_t sh.1, (sh.2.2.2.2.2.2.2.1).1]
  rfl
theorem shM.a499 (sh : shM T) {k : Int32 → Option α} (h : n < 60) : aI ((I, T) : Mem) 499 (nI n) k = k (I 499 n) := aI_t (sh.2.2.2.2.2.2.2.1).2.1 (by rw [(sh.2.2.2.2.2.2.2.1).2.2]; exact h) (by omega)
theorem shM.s499 (sh : shM T) {k : Mem → Option α} (h : n < 60) : sI ((I, T) : Mem) 499 (nI n) v k = k ((u2 I 499 n v, T) : Mem) := sI_t (sh.2.2.2.2.2.2.2.1).2.1 (by rw [(sh.2.2.2.2.2.2.2.1).2.2]; exact h) (by omega)
theorem shM.g20 (sh : shM T) {k : Nat → Option α} : gA 13 20 ((I, T) : Mem) 492 k = k 500 := by
  rw [gA_t sh.1, (sh.2.2.2.2.2.2.2.2.1).1]
  rfl
theorem shM.a500 (sh : shM T) {k : Int32 → Option α} (h : n < 6) : aI ((I, T) : Mem) 500 (nI n) k = k (I 500 n) := aI_t (sh.2.2.2.2.2.2.2.2.1).2.1 (by rw [(sh.2.2.2.2.2.2.2.2.1).2.2]; exact h) (by omega)
theorem shM.s500 (sh : shM T) {k : Mem → Option α} (h : n < 6) : sI ((I, T) : Mem) 500 (nI n) v k = k ((u2 I 500 n v, T) : Mem) := sI_t (sh.2.2.2.2.2.2.2.2.1).2.1 (by rw [(sh.2.2.2.2.2.2.2.2.1).2.2]; exact h) (by omega)
theorem shM.g21 (sh : shM T) {k : Nat → Option α} : gA 13 21 ((I, T) : Mem) 492 k = k 501 := by
  rw [gA_t sh.1, (sh.2.2.2.2.2.2.2.2.2.1).1]
  rfl
theorem shM.a501 (sh : shM T) {k : Int32 → Option α} (h : n < 6) : aI ((I, T) : Mem) 501 (nI n) k = k (I 501 n) := aI_t (sh.2.2.2.2.2.2.2.2.2.1).2.1 (by rw [(sh.2.2.2.2.2.2.2.2.2.1).2.2]; exact h) (by omega)
theorem shM.s501 (sh : shM T) {k : Mem → Option α} (h : n < 6) : sI ((I, T) : Mem) 501 (nI n) v k = k ((u2 I 501 n v, T) : Mem) := sI_t (sh.2.2.2.2.2.2.2.2.2.1).2.1 (by rw [(sh.2.2.2.2.2.2.2.2.2.1).2.2]; exact h) (by omega)
theorem shM.g22 (sh : shM T) {k : Nat → Option α} : gA 13 22 ((I, T) : Mem) 492 k = k 502 := by
  rw [gA_t sh.1, (sh.2.2.2.2.2.2.2.2.2.2.1).1]
  rfl
theorem shM.a502 (sh : shM T) {k : Int32 → Option α} (h : n < 6) : aI ((I, T) : Mem) 502 (nI n) k = k (I 502 n) := aI_t (sh.2.2.2.2.2.2.2.2.2.2.1).2.1 (by rw [(sh.2.2.2.2.2.2.2.2.2.2.1).2.2]; exact h) (by omega)
theorem shM.s502 (sh : shM T) {k : Mem → Option α} (h : n < 6) : sI ((I, T) : Mem) 502 (nI n) v k = k ((u2 I 502 n v, T) : Mem) := sI_t (sh.2.2.2.2.2.2.2.2.2.2.1).2.1 (by rw [(sh.2.2.2.2.2.2.2.2.2.2.1).2.2]; exact h) (by omega)
theorem shM.g23 (sh : shM T) {k : Nat → Option α} : gA 13 23 ((I, T) : Mem) 492 k = k 503 := by
  rw [gA_t sh.1, (sh.2.2.2.2.2.2.2.2.2.2.2.1).1]
  rfl
theorem shM.a503 (sh : shM T) {k : Int32 → Option α} (h : n < 6) : aI ((I, T) : Mem) 503 (nI n) k = k (I 503 n) := aI_t (sh.2.2.2.2.2.2.2.2.2.2.2.1).2.1 (by rw [(sh.2.2.2.2.2.2.2.2.2.2.2.1).2.2]; exact h) (by omega)
theorem shM.s503 (sh : shM T) {k : Mem → Option α} (h : n < 6) : sI ((I, T) : Mem) 503 (nI n) v k = k ((u2 I 503 n v, T) : Mem) := sI_t (sh.2.2.2.2.2.2.2.2.2.2.2.1).2.1 (by rw [(sh.2.2.2.2.2.2.2.2.2.2.2.1).2.2]; exact h) (by omega)
theorem shM.g24 (sh : shM T) {k : Nat → Option α} : gA 13 24 ((I, T) : Mem) 492 k = k 504 := by
  rw [gA_t sh.1, (sh.2.2.2.2.2.2.2.2.2.2.2.2.1).1]
  rfl
theorem shM.a504 (sh : shM T) {k : Int32 → Option α} (h : n < 96) : aB ((I, T) : Mem) 504 (nI n) k = k (I 504 n) := aB_t (Or.inr (sh.2.2.2.2.2.2.2.2.2.2.2.2.1).2.1) (by rw [(sh.2.2.2.2.2.2.2.2.2.2.2.2.1).2.2]; exact h) (by omega)
theorem shM.s504 (sh : shM T) {k : Mem → Option α} (h : n < 96) (hm : m < 2) : sB ((I, T) : Mem) 504 (nI n) (nI m) k = k ((u2 I 504 n (nI m), T) : Mem) := sB_t (sh.2.2.2.2.2.2.2.2.2.2.2.2.1).2.1 (by rw [(sh.2.2.2.2.2.2.2.2.2.2.2.2.1).2.2]; exact h) (by omega) hm
theorem shM.g25 (sh : shM T) {k : Nat → Option α} : gA 13 25 ((I, T) : Mem) 492 k = k 505 := by
  rw [gA_t sh.1, (sh.2.2.2.2.2.2.2.2.2.2.2.2.2.1).1]
  rfl
theorem shM.a505 (sh : shM T) {k : Int32 → Option α} (h : n < 96) : aB ((I, T) : Mem) 505 (nI n) k = k (I 505 n) := aB_t (Or.inr (sh.2.2.2.2.2.2.2.2.2.2.2.2.2.1).2.1) (by rw [(sh.2.2.2.2.2.2.2.2.2.2.2.2.2.1).2.2]; exact h) (by omega)
theorem shM.s505 (sh : shM T) {k : Mem → Option α} (h : n < 96) (hm : m < 2) : sB ((I, T) : Mem) 505 (nI n) (nI m) k = k ((u2 I 505 n (nI m), T) : Mem) := sB_t (sh.2.2.2.2.2.2.2.2.2.2.2.2.2.1).2.1 (by rw [(sh.2.2.2.2.2.2.2.2.2.2.2.2.2.1).2.2]; exact h) (by omega) hm
theorem shM.g26 (sh : shM T) {k : Nat → Option α} : gA 13 26 ((I, T) : Mem) 492 k = k 506 := by
  rw [gA_t sh.1, (sh.2.2.2.2.2.2.2.2.2.2.2.2.2.2.1).1]
  rfl
theorem shM.a506 (sh : shM T) {k : Int32 → Option α} (h : n < 96) : aB ((I, T) : Mem) 506 (nI n) k = k (I 506 n) := aB_t (Or.inr (sh.2.2.2.2.2.2.2.2.2.2.2.2.2.2.1).2.1) (by rw [(sh.2.2.2.2.2.2.2.2.2.2.2.2.2.2.1).2.2]; exact h) (by omega)
theorem shM.s506 (sh : shM T) {k : Mem → Option α} (h : n < 96) (hm : m < 2) : sB ((I, T) : Mem) 506 (nI n) (nI m) k = k ((u2 I 506 n (nI m), T) : Mem) := sB_t (sh.2.2.2.2.2.2.2.2.2.2.2.2.2.2.1).2.1 (by rw [(sh.2.2.2.2.2.2.2.2.2.2.2.2.2.2.1).2.2]; exact h) (by omega) hm
theorem shM.g27 (sh : shM T) {k : Nat → Option α} : gA 13 27 ((I, T) : Mem) 492 k = k 507 := by
  rw [gA_t sh.1, (sh.2.2.2.2.2.2.2.2.2.2.2.2.2.2.2.1).1]
  rfl
theorem shM.a507 (sh : shM T) {k : Int32 → Option α} (h : n < 96) : aI ((I, T) : Mem) 507 (nI n) k = k (I 507 n) := aI_t (sh.2.2.2.2.2.2.2.2.2.2.2.2.2.2.2.1).2.1 (by rw [(sh.2.2.2.2.2.2.2.2.2.2.2.2.2.2.2.1).2.2]; exact h) (by omega)
theorem shM.s507 (sh : shM T) {k : Mem → Option α} (h : n < 96) : sI ((I, T) : Mem) 507 (nI n) v k = k ((u2 I 507 n v, T) : Mem) := sI_t (sh.2.2.2.2.2.2.2.2.2.2.2.2.2.2.2.1).2.1 (by rw [(sh.2.2.2.2.2.2.2.2.2.2.2.2.2.2.2.1).2.2]; exact h) (by omega)
theorem shM.g28 (sh : shM T) {k : Nat → Option α} : gA 13 28 ((I, T) : Mem) 492 k = k 508 := by
  rw [gA_t sh.1, (sh.2.2.2.2.2.2.2.2.2.2.2.2.2.2.2.2.1).1]
  rfl
theorem shM.a508 (sh : shM T) {k : Int32 → Option α} (h : n < 96) : aI ((I, T) : Mem) 508 (nI n) k = k (I 508 n) := aI_t (sh.2.2.2.2.2.2.2.2.2.2.2.2.2.2.2.2.1).2.1 (by rw [(sh.2.2.2.2.2.2.2.2.2.2.2.2.2.2.2.2.1).2.2]; exact h) (by omega)
theorem shM.s508 (sh : shM T) {k : Mem → Option α} (h : n < 96) : sI ((I, T) : Mem) 508 (nI n) v k = k ((u2 I 508 n v, T) : Mem) := sI_t (sh.2.2.2.2.2.2.2.2.2.2.2.2.2.2.2.2.1).2.1 (by rw [(sh.2.2.2.2.2.2.2.2.2.2.2.2.2.2.2.2.1).2.2]; exact h) (by omega)
theorem shM.g29 (sh : shM T) {k : Nat → Option α} : gA 13 29 ((I, T) : Mem) 492 k = k 509 := by
  rw [gA_t sh.1, (sh.2.2.2.2.2.2.2.2.2.2.2.2.2.2.2.2.2.1).1]
  rfl
theorem shM.a509 (sh : shM T) {k : Int32 → Option α} (h : n < 96) : aI ((I, T) : Mem) 509 (nI n) k = k (I 509 n) := aI_t (sh.2.2.2.2.2.2.2.2.2.2.2.2.2.2.2.2.2.1).2.1 (by rw [(sh.2.2.2.2.2.2.2.2.2.2.2.2.2.2.2.2.2.1).2.2]; exact h) (by omega)
theorem shM.s509 (sh : shM T) {k : Mem → Option α} (h : n < 96) : sI ((I, T) : Mem) 509 (nI n) v k = k ((u2 I 509 n v, T) : Mem) := sI_t (sh.2.2.2.2.2.2.2.2.2.2.2.2.2.2.2.2.2.1).2.1 (by rw [(sh.2.2.2.2.2.2.2.2.2.2.2.2.2.2.2.2.2.1).2.2]; exact h) (by omega)
theorem shM.g30 (sh : shM T) {k : Nat → Option α} : gA 13 30 ((I, T) : Mem) 492 k = k 510 := by
  rw [gA_t sh.1, (sh.2.2.2.2.2.2.2.2.2.2.2.2.2.2.2.2.2.2.1).1]
  rfl
theorem shM.a510 (sh : shM T) {k : Int32 → Option α} (h : n < 96) : aI ((I, T) : Mem) 510 (nI n) k = k (I 510 n) := aI_t (sh.2.2.2.2.2.2.2.2.2.2.2.2.2.2.2.2.2.2.1).2.1 (by rw [(sh.2.2.2.2.2.2.2.2.2.2.2.2.2.2.2.2.2.2.1).2.2]; exact h) (by omega)
theorem shM.s510 (sh : shM T) {k : Mem → Option α} (h : n < 96) : sI ((I, T) : Mem) 510 (nI n) v k = k ((u2 I 510 n v, T) : Mem) := sI_t (sh.2.2.2.2.2.2.2.2.2.2.2.2.2.2.2.2.2.2.1).2.1 (by rw [(sh.2.2.2.2.2.2.2.2.2.2.2.2.2.2.2.2.2.2.1).2.2]; exact h) (by omega)
theorem shM.g31 (sh : shM T) {k : Nat → Option α} : gA 13 31 ((I, T) : Mem) 492 k = k 511 := by
  rw [gA_t sh.1, (sh.2.2.2.2.2.2.2.2.2.2.2.2.2.2.2.2.2.2.2.1).1]
  rfl
theorem shM.a511 (sh : shM T) {k : Int32 → Option α} (h : n < 96) : aI ((I, T) : Mem) 511 (nI n) k = k (I 511 n) := aI_t (sh.2.2.2.2.2.2.2.2.2.2.2.2.2.2.2.2.2.2.2.1).2.1 (by rw [(sh.2.2.2.2.2.2.2.2.2.2.2.2.2.2.2.2.2.2.2.1).2.2]; exact h) (by omega)
theorem shM.s511 (sh : shM T) {k : Mem → Option α} (h : n < 96) : sI ((I, T) : Mem) 511 (nI n) v k = k ((u2 I 511 n v, T) : Mem) := sI_t (sh.2.2.2.2.2.2.2.2.2.2.2.2.2.2.2.2.2.2.2.1).2.1 (by rw [(sh.2.2.2.2.2.2.2.2.2.2.2.2.2.2.2.2.2.2.2.1).2.2]; exact h) (by omega)
theorem shM.g32 (sh : shM T) {k : Nat → Option α} : gA 13 32 ((I, T) : Mem) 492 k = k 512 := by
  rw [gA_t sh.1, (sh.2.2.2.2.2.2.2.2.2.2.2.2.2.2.2.2.2.2.2.2.1).1]
  rfl
theorem shM.a512 (sh : shM T) {k : Int32 → Option α} (h : n < 96) : aI ((I, T) : Mem) 512 (nI n) k = k (I 512 n) := aI_t (sh.2.2.2.2.2.2.2.2.2.2.2.2.2.2.2.2.2.2.2.2.1).2.1 (by rw [(sh.2.2.2.2.2.2.2.2.2.2.2.2.2.2.2.2.2.2.2.2.1).2.2]; exact h) (by omega)
theorem shM.s512 (sh : shM T) {k : Mem → Option α} (h : n < 96) : sI ((I, T) : Mem) 512 (nI n) v k = k ((u2 I 512 n v, T) : Mem) := sI_t (sh.2.2.2.2.2.2.2.2.2.2.2.2.2.2.2.2.2.2.2.2.1).2.1 (by rw [(sh.2.2.2.2.2.2.2.2.2.2.2.2.2.2.2.2.2.2.2.2.1).2.2]; exact h) (by omega)
theorem shM.g33 (sh : shM T) {k : Nat → Option α} : gA 13 33 ((I, T) : Mem) 492 k = k 513 := by
  rw [gA_t sh.1, (sh.2.2.2.2.2.2.2.2.2.2.2.2.2.2.2.2.2.2.2.2.2.1).1]
  rfl
theorem shM.a513 (sh : shM T) {k : Int32 → Option α} (h : n < 18) : aI ((I, T) : Mem) 513 (nI n) k = k (I 513 n) := aI_t (sh.2.2.2.2.2.2.2.2.2.2.2.2.2.2.2.2.2.2.2.2.2.1).2.1 (by rw [(sh.2.2.2.2.2.2.2.2.2.2.2.2.2.2.2.2.2.2.2.2.2.1).2.2]; exact h) (by omega)
theorem shM.s513 (sh : shM T) {k : Mem → Option α} (h : n < 18) : sI ((I, T) : Mem) 513 (nI n) v k = k ((u2 I 513 n v, T) : Mem) := sI_t (sh.2.2.2.2.2.2.2.2.2.2.2.2.2.2.2.2.2.2.2.2.2.1).2.1 (by rw [(sh.2.2.2.2.2.2.2.2.2.2.2.2.2.2.2.2.2.2.2.2.2.1).2.2]; exact h) (by omega)
theorem shM.g34 (sh : shM T) {k : Nat → Option α} : gA 13 34 ((I, T) : Mem) 492 k = k 514 := by
  rw [gA_t sh.1, (sh.2.2.2.2.2.2.2.2.2.2.2.2.2.2.2.2.2.2.2.2.2.2.1).1]
  rfl
theorem shM.a514 (sh : shM T) {k : Int32 → Option α} (h : n < 18) : aI ((I, T) : Mem) 514 (nI n) k = k (I 514 n) := aI_t (sh.2.2.2.2.2.2.2.2.2.2.2.2.2.2.2.2.2.2.2.2.2.2.1).2.1 (by rw [(sh.2.2.2.2.2.2.2.2.2.2.2.2.2.2.2.2.2.2.2.2.2.2.1).2.2]; exact h) (by omega)
theorem shM.s514 (sh : shM T) {k : Mem → Option α} (h : n < 18) : sI ((I, T) : Mem) 514 (nI n) v k = k ((u2 I 514 n v, T) : Mem) := sI_t (sh.2.2.2.2.2.2.2.2.2.2.2.2.2.2.2.2.2.2.2.2.2.2.1).2.1 (by rw [(sh.2.2.2.2.2.2.2.2.2.2.2.2.2.2.2.2.2.2.2.2.2.2.1).2.2]; exact h) (by omega)
theorem shM.g35 (sh : shM T) {k : Nat → Option α} : gA 13 35 ((I, T) : Mem) 492 k = k 515 := by
  rw [gA_t sh.1, (sh.2.2.2.2.2.2.2.2.2.2.2.2.2.2.2.2.2.2.2.2.2.2.2.1).1]
  rfl
theorem shM.a515 (sh : shM T) {k : Int32 → Option α} (h : n < 18) : aI ((I, T) : Mem) 515 (nI n) k = k (I 515 n) := aI_t (sh.2.2.2.2.2.2.2.2.2.2.2.2.2.2.2.2.2.2.2.2.2.2.2.1).2.1 (by rw [(sh.2.2.2.2.2.2.2.2.2.2.2.2.2.2.2.2.2.2.2.2.2.2.2.1).2.2]; exact h) (by omega)
theorem shM.s515 (sh : shM T) {k : Mem → Option α} (h : n < 18) : sI ((I, T) : Mem) 515 (nI n) v k = k ((u2 I 515 n v, T) : Mem) := sI_t (sh.2.2.2.2.2.2.2.2.2.2.2.2.2.2.2.2.2.2.2.2.2.2.2.1).2.1 (by rw [(sh.2.2.2.2.2.2.2.2.2.2.2.2.2.2.2.2.2.2.2.2.2.2.2.1).2.2]; exact h) (by omega)
theorem shM.g39 (sh : shM T) {k : Nat → Option α} : gA 13 39 ((I, T) : Mem) 492 k = k 516 := by
  rw [gA_t sh.1, (sh.2.2.2.2.2.2.2.2.2.2.2.2.2.2.2.2.2.2.2.2.2.2.2.2.1).1]
  rfl
theorem shM.a516 (sh : shM T) {k : Int32 → Option α} (h : n < 18) : aI ((I, T) : Mem) 516 (nI n) k = k (I 516 n) := aI_t (sh.2.2.2.2.2.2.2.2.2.2.2.2.2.2.2.2.2.2.2.2.2.2.2.2.1).2.1 (by rw [(sh.2.2.2.2.2.2.2.2.2.2.2.2.2.2.2.2.2.2.2.2.2.2.2.2.1).2.2]; exact h) (by omega)
theorem shM.s516 (sh : shM T) {k : Mem → Option α} (h : n < 18) : sI ((I, T) : Mem) 516 (nI n) v k = k ((u2 I 516 n v, T) : Mem) := sI_t (sh.2.2.2.2.2.2.2.2.2.2.2.2.2.2.2.2.2.2.2.2.2.2.2.2.1).2.1 (by rw [(sh.2.2.2.2.2.2.2.2.2.2.2.2.2.2.2.2.2.2.2.2.2.2.2.2.1).2.2]; exact h) (by omega)
theorem shM.g40 (sh : shM T) {k : Nat → Option α} : gA 13 40 ((I, T) : Mem) 492 k = k 517 := by
  rw [gA_t sh.1, (sh.2.2.2.2.2.2.2.2.2.2.2.2.2.2.2.2.2.2.2.2.2.2.2.2.2.1).1]
  rfl
theorem shM.a517 (sh : shM T) {k : Int32 → Option α} (h : n < 54) : aI ((I, T) : Mem) 517 (nI n) k = k (I 517 n) := aI_t (sh.2.2.2.2.2.2.2.2.2.2.2.2.2.2.2.2.2.2.2.2.2.2.2.2.2.1).2.1 (by rw [(sh.2.2.2.2.2.2.2.2.2.2.2.2.2.2.2.2.2.2.2.2.2.2.2.2.2.1).2.2]; exact h) (by omega)
theorem shM.s517 (sh : shM T) {k : Mem → Option α} (h : n < 54) : sI ((I, T) : Mem) 517 (nI n) v k = k ((u2 I 517 n v, T) : Mem) := sI_t (sh.2.2.2.2.2.2.2.2.2.2.2.2.2.2.2.2.2.2.2.2.2.2.2.2.2.1).2.1 (by rw [(sh.2.2.2.2.2.2.2.2.2.2.2.2.2.2.2.2.2.2.2.2.2.2.2.2.2.1).2.2]; exact h) (by omega)
theorem shM.g41 (sh : shM T) {k : Nat → Option α} : gA 13 41 ((I, T) : Mem) 492 k = k 518 := by
  rw [gA_t sh.1, (sh.2.2.2.2.2.2.2.2.2.2.2.2.2.2.2.2.2.2.2.2.2.2.2.2.2.2.1).1]
  rfl
theorem shM.a518 (sh : shM T) {k : Int32 → Option α} (h : n < 54) : aI ((I, T) : Mem) 518 (nI n) k = k (I 518 n) := aI_t (sh.2.2.2.2.2.2.2.2.2.2.2.2.2.2.2.2.2.2.2.2.2.2.2.2.2.2.1).2.1 (by rw [(sh.2.2.2.2.2.2.2.2.2.2.2.2.2.2.2.2.2.2.2.2.2.2.2.2.2.2.1).2.2]; exact h) (by omega)
theorem shM.s518 (sh : shM T) {k : Mem → Option α} (h : n < 54) : sI ((I, T) : Mem) 518 (nI n) v k = k ((u2 I 518 n v, T) : Mem) := sI_t (sh.2.2.2.2.2.2.2.2.2.2.2.2.2.2.2.2.2.2.2.2.2.2.2.2.2.2.1).2.1 (by rw [(sh.2.2.2.2.2.2.2.2.2.2.2.2.2.2.2.2.2.2.2.2.2.2.2.2.2.2.1).2.2]; exact h) (by omega)
theorem shM.g42 (sh : shM T) {k : Nat → Option α} : gA 13 42 ((I, T) : Mem) 492 k = k 519 := by
  rw [gA_t sh.1, (sh.2.2.2.2.2.2.2.2.2.2.2.2.2.2.2.2.2.2.2.2.2.2.2.2.2.2.2.1).1]
  rfl
theorem shM.a519 (sh : shM T) {k : Int32 → Option α} (h : n < 54) : aI ((I, T) : Mem) 519 (nI n) k = k (I 519 n) := aI_t (sh.2.2.2.2.2.2.2.2.2.2.2.2.2.2.2.2.2.2.2.2.2.2.2.2.2.2.2.1).2.1 (by rw [(sh.2.2.2.2.2.2.2.2.2.2.2.2.2.2.2.2.2.2.2.2.2.2.2.2.2.2.2.1).2.2]; exact h) (by omega)
theorem shM.s519 (sh : shM T) {k : Mem → Option α} (h : n < 54) : sI ((I, T) : Mem) 519 (nI n) v k = k ((u2 I 519 n v, T) : Mem) := sI_t (sh.2.2.2.2.2.2.2.2.2.2.2.2.2.2.2.2.2.2.2.2.2.2.2.2.2.2.2.1).2.1 (by rw [(sh.2.2.2.2.2.2.2.2.2.2.2.2.2.2.2.2.2.2.2.2.2.2.2.2.2.2.2.1).2.2]; exact h) (by omega)
theorem shM.g43 (sh : shM T) {k : Nat → Option α} : gA 13 43 ((I, T) : Mem) 492 k = k 520 := by
  rw [gA_t sh.1, (sh.2.2.2.2.2.2.2.2.2.2.2.2.2.2.2.2.2.2.2.2.2.2.2.2.2.2.2.2.1).1]
  rfl
theorem shM.a520 (sh : shM T) {k : Int32 → Option α} (h : n < 18) : aI ((I, T) : Mem) 520 (nI n) k = k (I 520 n) := aI_t (sh.2.2.2.2.2.2.2.2.2.2.2.2.2.2.2.2.2.2.2.2.2.2.2.2.2.2.2.2.1).2.1 (by rw [(sh.2.2.2.2.2.2.2.2.2.2.2.2.2.2.2.2.2.2.2.2.2.2.2.2.2.2.2.2.1).2.2]; exact h) (by omega)
theorem shM.s520 (sh : shM T) {k : Mem → Option α} (h : n < 18) : sI ((I, T) : Mem) 520 (nI n) v k = k ((u2 I 520 n v, T) : Mem) := sI_t (sh.2.2.2.2.2.2.2.2.2.2.2.2.2.2.2.2.2.2.2.2.2.2.2.2.2.2.2.2.1).2.1 (by rw [(sh.2.2.2.2.2.2.2.2.2.2.2.2.2.2.2.2.2.2.2.2.2.2.2.2.2.2.2.2.1).2.2]; exact h) (by omega)
theorem shM.g44 (sh : shM T) {k : Nat → Option α} : gA 13 44 ((I, T) : Mem) 492 k = k 521 := by
  rw [gA_t sh.1, (sh.2.2.2.2.2.2.2.2.2.2.2.2.2.2.2.2.2.2.2.2.2.2.2.2.2.2.2.2.2.1).1]
  rfl
theorem shM.a521 (sh : shM T) {k : Int32 → Option α} (h : n < 18) : aI ((I, T) : Mem) 521 (nI n) k = k (I 521 n) := aI_t (sh.2.2.2.2.2.2.2.2.2.2.2.2.2.2.2.2.2.2.2.2.2.2.2.2.2.2.2.2.2.1).2.1 (by rw [(sh.2.2.2.2.2.2.2.2.2.2.2.2.2.2.2.2.2.2.2.2.2.2.2.2.2.2.2.2.2.1).2.2]; exact h) (by omega)
theorem shM.s521 (sh : shM T) {k : Mem → Option α} (h : n < 18) : sI ((I, T) : Mem) 521 (nI n) v k = k ((u2 I 521 n v, T) : Mem) := sI_t (sh.2.2.2.2.2.2.2.2.2.2.2.2.2.2.2.2.2.2.2.2.2.2.2.2.2.2.2.2.2.1).2.1 (by rw [(sh.2.2.2.2.2.2.2.2.2.2.2.2.2.2.2.2.2.2.2.2.2.2.2.2.2.2.2.2.2.1).2.2]; exact h) (by omega)
theorem shM.g45 (sh : shM T) {k : Nat → Option α} : gA 13 45 ((I, T) : Mem) 492 k = k 522 := by
  rw [gA_t sh.1, (sh.2.2.2.2.2.2.2.2.2.2.2.2.2.2.2.2.2.2.2.2.2.2.2.2.2.2.2.2.2.2.1).1]
  rfl
theorem shM.a522 (sh : shM T) {k : Int32 → Option α} (h : n < 18) : aB ((I, T) : Mem) 522 (nI n) k = k (I 522 n) := aB_t (Or.inr (sh.2.2.2.2.2.2.2.2.2.2.2.2.2.2.2.2.2.2.2.2.2.2.2.2.2.2.2.2.2.2.1).2.1) (by rw [(sh.2.2.2.2.2.2.2.2.2.2.2.2.2.2.2.2.2.2.2.2.2.2.2.2.2.2.2.2.2.2.1).2.2]; exact h) (by omega)
theorem shM.s522 (sh : shM T) {k : Mem → Option α} (h : n < 18) (hm : m < 2) : sB ((I, T) : Mem) 522 (nI n) (nI m) k = k ((u2 I 522 n (nI m), T) : Mem) := sB_t (sh.2.2.2.2.2.2.2.2.2.2.2.2.2.2.2.2.2.2.2.2.2.2.2.2.2.2.2.2.2.2.1).2.1 (by rw [(sh.2.2.2.2.2.2.2.2.2.2.2.2.2.2.2.2.2.2.2.2.2.2.2.2.2.2.2.2.2.2.1).2.2]; exact h) (by omega) hm
theorem shM.g46 (sh : shM T) {k : Nat → Option α} : gA 13 46 ((I, T) : Mem) 492 k = k 523 := by
  rw [gA_t sh.1, (sh.2.2.2.2.2.2.2.2.2.2.2.2.2.2.2.2.2.2.2.2.2.2.2.2.2.2.2.2.2.2.2.1).1]
  rfl
theorem shM.a523 (sh : shM T) {k : Int32 → Option α} (h : n < 54) : aI ((I, T) : Mem) 523 (nI n) k = k (I 523 n) := aI_t (sh.2.2.2.2.2.2.2.2.2.2.2.2.2.2.2.2.2.2.2.2.2.2.2.2.2.2.2.2.2.2.2.1).2.1 (by rw [(sh.2.2.2.2.2.2.2.2.2.2.2.2.2.2.2.2.2.2.2.2.2.2.2.2.2.2.2.2.2.2.2.1).2.2]; exact h) (by omega)
theorem shM.s523 (sh : shM T) {k : Mem → Option α} (h : n < 54) : sI ((I, T) : Mem) 523 (nI n) v k = k ((u2 I 523 n v, T) : Mem) := sI_t (sh.2.2.2.2.2.2.2.2.2.2.2.2.2.2.2.2.2.2.2.2.2.2.2.2.2.2.2.2.2.2.2.1).2.1 (by rw [(sh.2.2.2.2.2.2.2.2.2.2.2.2.2.2.2.2.2.2.2.2.2.2.2.2.2.2.2.2.2.2.2.1).2.2]; exact h) (by omega)
theorem shM.g47 (sh : shM T) {k : Nat → Option α} : gA 13 47 ((I, T) : Mem) 492 k = k 524 := by
  rw [gA_t sh.1, (sh.2.2.2.2.2.2.2.2.2.2.2.2.2.2.2.2.2.2.2.2.2.2.2.2.2.2.2.2.2.2.2.2.1).1]
  rfl
theorem shM.a524 (sh : shM T) {k : Int32 → Option α} (h : n < 54) : aI ((I, T) : Mem) 524 (nI n) k = k (I 524 n) := aI_t (sh.2.2.2.2.2.2.2.2.2.2.2.2.2.2.2.2.2.2.2.2.2.2.2.2.2.2.2.2.2.2.2.2.1).2.1 (by rw [(sh.2.2.2.2.2.2.2.2.2.2.2.2.2.2.2.2.2.2.2.2.2.2.2.2.2.2.2.2.2.2.2.2.1).2.2]; exact h) (by omega)
theorem shM.s524 (sh : shM T) {k : Mem → Option α} (h : n < 54) : sI ((I, T) : Mem) 524 (nI n) v k = k ((u2 I 524 n v, T) : Mem) := sI_t (sh.2.2.2.2.2.2.2.2.2.2.2.2.2.2.2.2.2.2.2.2.2.2.2.2.2.2.2.2.2.2.2.2.1).2.1 (by rw [(sh.2.2.2.2.2.2.2.2.2.2.2.2.2.2.2.2.2.2.2.2.2.2.2.2.2.2.2.2.2.2.2.2.1).2.2]; exact h) (by omega)
theorem shM.g48 (sh : shM T) {k : Nat → Option α} : gA 13 48 ((I, T) : Mem) 492 k = k 525 := by
  rw [gA_t sh.1, (sh.2.2.2.2.2.2.2.2.2.2.2.2.2.2.2.2.2.2.2.2.2.2.2.2.2.2.2.2.2.2.2.2.2.1).1]
  rfl
theorem shM.a525 (sh : shM T) {k : Int32 → Option α} (h : n < 216) : aI ((I, T) : Mem) 525 (nI n) k = k (I 525 n) := aI_t (sh.2.2.2.2.2.2.2.2.2.2.2.2.2.2.2.2.2.2.2.2.2.2.2.2.2.2.2.2.2.2.2.2.2.1).2.1 (by rw [(sh.2.2.2.2.2.2.2.2.2.2.2.2.2.2.2.2.2.2.2.2.2.2.2.2.2.2.2.2.2.2.2.2.2.1).2.2]; exact h) (by omega)
theorem shM.s525 (sh : shM T) {k : Mem → Option α} (h : n < 216) : sI ((I, T) : Mem) 525 (nI n) v k = k ((u2 I 525 n v, T) : Mem) := sI_t (sh.2.2.2.2.2.2.2.2.2.2.2.2.2.2.2.2.2.2.2.2.2.2.2.2.2.2.2.2.2.2.2.2.2.1).2.1 (by rw [(sh.2.2.2.2.2.2.2.2.2.2.2.2.2.2.2.2.2.2.2.2.2.2.2.2.2.2.2.2.2.2.2.2.2.1).2.2]; exact h) (by omega)
theorem shM.g49 (sh : shM T) {k : Nat → Option α} : gA 13 49 ((I, T) : Mem) 492 k = k 526 := by
  rw [gA_t sh.1, (sh.2.2.2.2.2.2.2.2.2.2.2.2.2.2.2.2.2.2.2.2.2.2.2.2.2.2.2.2.2.2.2.2.2.2.1).1]
  rfl
theorem shM.a526 (sh : shM T) {k : Int32 → Option α} (h : n < 216) : aI ((I, T) : Mem) 526 (nI n) k = k (I 526 n) := aI_t (sh.2.2.2.2.2.2.2.2.2.2.2.2.2.2.2.2.2.2.2.2.2.2.2.2.2.2.2.2.2.2.2.2.2.2.1).2.1 (by rw [(sh.2.2.2.2.2.2.2.2.2.2.2.2.2.2.2.2.2.2.2.2.2.2.2.2.2.2.2.2.2.2.2.2.2.2.1).2.2]; exact h) (by omega)
theorem shM.s526 (sh : shM T) {k : Mem → Option α} (h : n < 216) : sI ((I, T) : Mem) 526 (nI n) v k = k ((u2 I 526 n v, T) : Mem) := sI_t (sh.2.2.2.2.2.2.2.2.2.2.2.2.2.2.2.2.2.2.2.2.2.2.2.2.2.2.2.2.2.2.2.2.2.2.1).2.1 (by rw [(sh.2.2.2.2.2.2.2.2.2.2.2.2.2.2.2.2.2.2.2.2.2.2.2.2.2.2.2.2.2.2.2.2.2.2.1).2.2]; exact h) (by omega)
theorem shM.g50 (sh : shM T) {k : Nat → Option α} : gA 13 50 ((I, T) : Mem) 492 k = k 527 := by
  rw [gA_t sh.1, (sh.2.2.2.2.2.2.2.2.2.2.2.2.2.2.2.2.2.2.2.2.2.2.2.2.2.2.2.2.2.2.2.2.2.2.2.1).1]
  rfl
theorem shM.a527 (sh : shM T) {k : Int32 → Option α} (h : n < 216) : aI ((I, T) : Mem) 527 (nI n) k = k (I 527 n) := aI_t (sh.2.2.2.2.2.2.2.2.2.2.2.2.2.2.2.2.2.2.2.2.2.2.2.2.2.2.2.2.2.2.2.2.2.2.2.1).2.1 (by rw [(sh.2.2.2.2.2.2.2.2.2.2.2.2.2.2.2.2.2.2.2.2.2.2.2.2.2.2.2.2.2.2.2.2.2.2.2.1).2.2]; exact h) (by omega)
theorem shM.s527 (sh : shM T) {k : Mem → Option α} (h : n < 216) : sI ((I, T) : Mem) 527 (nI n) v k = k ((u2 I 527 n v, T) : Mem) := sI_t (sh.2.2.2.2.2.2.2.2.2.2.2.2.2.2.2.2.2.2.2.2.2.2.2.2.2.2.2.2.2.2.2.2.2.2.2.1).2.1 (by rw [(sh.2.2.2.2.2.2.2.2.2.2.2.2.2.2.2.2.2.2.2.2.2.2.2.2.2.2.2.2.2.2.2.2.2.2.2.1).2.2]; exact h) (by omega)
theorem shM.g51 (sh : shM T) {k : Nat → Option α} : gA 13 51 ((I, T) : Mem) 492 k = k 528 := by
  rw [gA_t sh.1, (sh.2.2.2.2.2.2.2.2.2.2.2.2.2.2.2.2.2.2.2.2.2.2.2.2.2.2.2.2.2.2.2.2.2.2.2.2.1).1]
  rfl
theorem shM.a528 (sh : shM T) {k : Int32 → Option α} (h : n < 54) : aI ((I, T) : Mem) 528 (nI n) k = k (I 528 n) := aI_t (sh.2.2.2.2.2.2.2.2.2.2.2.2.2.2.2.2.2.2.2.2.2.2.2.2.2.2.2.2.2.2.2.2.2.2.2.2.1).2.1 (by rw [(sh.2.2.2.2.2.2.2.2.2.2.2.2.2.2.2.2.2.2.2.2.2.2.2.2.2.2.2.2.2.2.2.2.2.2.2.2.1).2.2]; exact h) (by omega)
theorem shM.s528 (sh : shM T) {k : Mem → Option α} (h : n < 54) : sI ((I, T) : Mem) 528 (nI n) v k = k ((u2 I 528 n v, T) : Mem) := sI_t (sh.2.2.2.2.2.2.2.2.2.2.2.2.2.2.2.2.2.2.2.2.2.2.2.2.2.2.2.2.2.2.2.2.2.2.2.2.1).2.1 (by rw [(sh.2.2.2.2.2.2.2.2.2.2.2.2.2.2.2.2.2.2.2.2.2.2.2.2.2.2.2.2.2.2.2.2.2.2.2.2.1).2.2]; exact h) (by omega)
theorem shM.g52 (sh : shM T) {k : Nat → Option α} : gA 13 52 ((I, T) : Mem) 492 k = k 529 := by
  rw [gA_t sh.1, (sh.2.2.2.2.2.2.2.2.2.2.2.2.2.2.2.2.2.2.2.2.2.2.2.2.2.2.2.2.2.2.2.2.2.2.2.2.2.1).1]
  rfl
theorem shM.a529 (sh : shM T) {k : Int32 → Option α} (h : n < 54) : aI ((I, T) : Mem) 529 (nI n) k = k (I 529 n) := aI_t (sh.2.2.2.2.2.2.2.2.2.2.2.2.2.2.2.2.2.2.2.2.2.2.2.2.2.2.2.2.2.2.2.2.2.2.2.2.2.1).2.1 (by rw [(sh.2.2.2.2.2.2.2.2.2.2.2.2.2.2.2.2.2.2.2.2.2.2.2.2.2.2.2.2.2.2.2.2.2.2.2.2.2.1).2.2]; exact h) (by omega)
theorem shM.s529 (sh : shM T) {k : Mem → Option α} (h : n < 54) : sI ((I, T) : Mem) 529 (nI n) v k = k ((u2 I 529 n v, T) : Mem) := sI_t (sh.2.2.2.2.2.2.2.2.2.2.2.2.2.2.2.2.2.2.2.2.2.2.2.2.2.2.2.2.2.2.2.2.2.2.2.2.2.1).2.1 (by rw [(sh.2.2.2.2.2.2.2.2.2.2.2.2.2.2.2.2.2.2.2.2.2.2.2.2.2.2.2.2.2.2.2.2.2.2.2.2.2.1).2.2]; exact h) (by omega)
theorem shM.g53 (sh : shM T) {k : Nat → Option α} : gA 13 53 ((I, T) : Mem) 492 k = k 530 := by
  rw [gA_t sh.1, (sh.2.2.2.2.2.2.2.2.2.2.2.2.2.2.2.2.2.2.2.2.2.2.2.2.2.2.2.2.2.2.2.2.2.2.2.2.2.2.1).1]
  rfl
theorem shM.a530 (sh : shM T) {k : Int32 → Option α} (h : n < 216) : aI ((I, T) : Mem) 530 (nI n) k = k (I 530 n) := aI_t (sh.2.2.2.2.2.2.2.2.2.2.2.2.2.2.2.2.2.2.2.2.2.2.2.2.2.2.2.2.2.2.2.2.2.2.2.2.2.2.1).2.1 (by rw [(sh.2.2.2.2.2.2.2.2.2.2.2.2.2.2.2.2.2.2.2.2.2.2.2.2.2.2.2.2.2.2.2.2.2.2.2.2.2.2.1).2.2]; exact h) (by omega)
theorem shM.s530 (sh : shM T) {k : Mem → Option α} (h : n < 216) : sI ((I, T) : Mem) 530 (nI n) v k = k ((u2 I 530 n v, T) : Mem) := sI_t (sh.2.2.2.2.2.2.2.2.2.2.2.2.2.2.2.2.2.2.2.2.2.2.2.2.2.2.2.2.2.2.2.2.2.2.2.2.2.2.1).2.1 (by rw [(sh.2.2.2.2.2.2.2.2.2.2.2.2.2.2.2.2.2.2.2.2.2.2.2.2.2.2.2.2.2.2.2.2.2.2.2.2.2.2.1).2.2]; exact h) (by omega)
theorem shM.g54 (sh : shM T) {k : Nat → Option α} : gA 13 54 ((I, T) : Mem) 492 k = k 531 := by
  rw [gA_t sh.1, (sh.2.2.2.2.2.2.2.2.2.2.2.2.2.2.2.2.2.2.2.2.2.2.2.2.2.2.2.2.2.2.2.2.2.2.2.2.2.2.2.1).1]
  rfl
theorem shM.a531 (sh : shM T) {k : Int32 → Option α} (h : n < 864) : aI ((I, T) : Mem) 531 (nI n) k = k (I 531 n) := aI_t (sh.2.2.2.2.2.2.2.2.2.2.2.2.2.2.2.2.2.2.2.2.2.2.2.2.2.2.2.2.2.2.2.2.2.2.2.2.2.2.2.1).2.1 (by rw [(sh.2.2.2.2.2.2.2.2.2.2.2.2.2.2.2.2.2.2.2.2.2.2.2.2.2.2.2.2.2.2.2.2.2.2.2.2.2.2.2.1).2.2]; exact h) (by omega)
theorem shM.s531 (sh : shM T) {k : Mem → Option α} (h : n < 864) : sI ((I, T) : Mem) 531 (nI n) v k = k ((u2 I 531 n v, T) : Mem) := sI_t (sh.2.2.2.2.2.2.2.2.2.2.2.2.2.2.2.2.2.2.2.2.2.2.2.2.2.2.2.2.2.2.2.2.2.2.2.2.2.2.2.1).2.1 (by rw [(sh.2.2.2.2.2.2.2.2.2.2.2.2.2.2.2.2.2.2.2.2.2.2.2.2.2.2.2.2.2.2.2.2.2.2.2.2.2.2.2.1).2.2]; exact h) (by omega)
theorem shM.g55 (sh : shM T) {k : Nat → Option α} : gA 13 55 ((I, T) : Mem) 492 k = k 532 := by
  rw [gA_t sh.1, (sh.2.2.2.2.2.2.2.2.2.2.2.2.2.2.2.2.2.2.2.2.2.2.2.2.2.2.2.2.2.2.2.2.2.2.2.2.2.2.2.2.1).1]
  rfl
theorem shM.a532 (sh : shM T) {k : Int32 → Option α} (h : n < 864) : aI ((I, T) : Mem) 532 (nI n) k = k (I 532 n) := aI_t (sh.2.2.2.2.2.2.2.2.2.2.2.2.2.2.2.2.2.2.2.2.2.2.2.2.2.2.2.2.2.2.2.2.2.2.2.2.2.2.2.2.1).2.1 (by rw [(sh.2.2.2.2.2.2.2.2.2.2.2.2.2.2.2.2.2.2.2.2.2.2.2.2.2.2.2.2.2.2.2.2.2.2.2.2.2.2.2.2.1).2.2]; exact h) (by omega)
theorem shM.s532 (sh : shM T) {k : Mem → Option α} (h : n < 864) : sI ((I, T) : Mem) 532 (nI n) v k = k ((u2 I 532 n v, T) : Mem) := sI_t (sh.2.2.2.2.2.2.2.2.2.2.2.2.2.2.2.2.2.2.2.2.2.2.2.2.2.2.2.2.2.2.2.2.2.2.2.2.2.2.2.2.1).2.1 (by rw [(sh.2.2.2.2.2.2.2.2.2.2.2.2.2.2.2.2.2.2.2.2.2.2.2.2.2.2.2.2.2.2.2.2.2.2.2.2.2.2.2.2.1).2.2]; exact h) (by omega)
theorem shM.g56 (sh : shM T) {k : Nat → Option α} : gA 13 56 ((I, T) : Mem) 492 k = k 533 := by
  rw [gA_t sh.1, (sh.2.2.2.2.2.2.2.2.2.2.2.2.2.2.2.2.2.2.2.2.2.2.2.2.2.2.2.2.2.2.2.2.2.2.2.2.2.2.2.2.2.1).1]
  rfl
theorem shM.a533 (sh : shM T) {k : Int32 → Option α} (h : n < 864) : aI ((I, T) : Mem) 533 (nI n) k = k (I 533 n) := aI_t (sh.2.2.2.2.2.2.2.2.2.2.2.2.2.2.2.2.2.2.2.2.2.2.2.2.2.2.2.2.2.2.2.2.2.2.2.2.2.2.2.2.2.1).2.1 (by rw [(sh.2.2.2.2.2.2.2.2.2.2.2.2.2.2.2.2.2.2.2.2.2.2.2.2.2.2.2.2.2.2.2.2.2.2.2.2.2.2.2.2.2.1).2.2]; exact h) (by omega)
theorem shM.s533 (sh : shM T) {k : Mem → Option α} (h : n < 864) : sI ((I, T) : Mem) 533 (nI n) v k = k ((u2 I 533 n v, T) : Mem) := sI_t (sh.2.2.2.2.2.2.2.2.2.2.2.2.2.2.2.2.2.2.2.2.2.2.2.2.2.2.2.2.2.2.2.2.2.2.2.2.2.2.2.2.2.1).2.1 (by rw [(sh.2.2.2.2.2.2.2.2.2.2.2.2.2.2.2.2.2.2.2.2.2.2.2.2.2.2.2.2.2.2.2.2.2.2.2.2.2.2.2.2.2.1).2.2]; exact h) (by omega)
theorem shM.g57 (sh : shM T) {k : Nat → Option α} : gA 13 57 ((I, T) : Mem) 492 k = k 534 := by
  rw [gA_t sh.1, (sh.2.2.2.2.2.2.2.2.2.2.2.2.2.2.2.2.2.2.2.2.2.2.2.2.2.2.2.2.2.2.2.2.2.2.2.2.2.2.2.2.2.2.1).1]
  rfl
theorem shM.a534 (sh : shM T) {k : Int32 → Option α} (h : n < 40000) : aI ((I, T) : Mem) 534 (nI n) k = k (I 534 n) := aI_t (sh.2.2.2.2.2.2.2.2.2.2.2.2.2.2.2.2.2.2.2.2.2.2.2.2.2.2.2.2.2.2.2.2.2.2.2.2.2.2.2.2.2.2.1).2.1 (by rw [(sh.2.2.2.2.2.2.2.2.2.2.2.2.2.2.2.2.2.2.2.2.2.2.2.2.2.2.2.2.2.2.2.2.2.2.2.2.2.2.2.2.2.2.1).2.2]; exact h) (by omega)
theorem shM.s534 (sh : shM T) {k : Mem → Option α} (h : n < 40000) : sI ((I, T) : Mem) 534 (nI n) v k = k ((u2 I 534 n v, T) : Mem) := sI_t (sh.2.2.2.2.2.2.2.2.2.2.2.2.2.2.2.2.2.2.2.2.2.2.2.2.2.2.2.2.2.2.2.2.2.2.2.2.2.2.2.2.2.2.1).2.1 (by rw [(sh.2.2.2.2.2.2.2.2.2.2.2.2.2.2.2.2.2.2.2.2.2.2.2.2.2.2.2.2.2.2.2.2.2.2.2.2.2.2.2.2.2.2.1).2.2]; exact h) (by omega)
theorem shM.g62 (sh : shM T) {k : Nat → Option α} : gA 13 62 ((I, T) : Mem) 492 k = k 535 := by
  rw [gA_t sh.1, (sh.2.2.2.2.2.2.2.2.2.2.2.2.2.2.2.2.2.2.2.2.2.2.2.2.2.2.2.2.2.2.2.2.2.2.2.2.2.2.2.2.2.2.2.1).1]
  rfl
theorem shM.a535 (sh : shM T) {k : Int32 → Option α} (h : n < 6) : aI ((I, T) : Mem) 535 (nI n) k = k (I 535 n) := aI_t (sh.2.2.2.2.2.2.2.2.2.2.2.2.2.2.2.2.2.2.2.2.2.2.2.2.2.2.2.2.2.2.2.2.2.2.2.2.2.2.2.2.2.2.2.1).2.1 (by rw [(sh.2.2.2.2.2.2.2.2.2.2.2.2.2.2.2.2.2.2.2.2.2.2.2.2.2.2.2.2.2.2.2.2.2.2.2.2.2.2.2.2.2.2.2.1).2.2]; exact h) (by omega)
theorem shM.s535 (sh : shM T) {k : Mem → Option α} (h : n < 6) : sI ((I, T) : Mem) 535 (nI n) v k = k ((u2 I 535 n v, T) : Mem) := sI_t (sh.2.2.2.2.2.2.2.2.2.2.2.2.2.2.2.2.2.2.2.2.2.2.2.2.2.2.2.2.2.2.2.2.2.2.2.2.2.2.2.2.2.2.2.1).2.1 (by rw [(sh.2.2.2.2.2.2.2.2.2.2.2.2.2.2.2.2.2.2.2.2.2.2.2.2.2.2.2.2.2.2.2.2.2.2.2.2.2.2.2.2.2.2.2.1).2.2]; exact h) (by omega)
theorem shM.g63 (sh : shM T) {k : Nat → Option α} : gA 13 63 ((I, T) : Mem) 492 k = k 536 := by
  rw [gA_t sh.1, (sh.2.2.2.2.2.2.2.2.2.2.2.2.2.2.2.2.2.2.2.2.2.2.2.2.2.2.2.2.2.2.2.2.2.2.2.2.2.2.2.2.2.2.2.2.1).1]
  rfl
theorem shM.a536 (sh : shM T) {k : Int32 → Option α} (h : n < 6) : aI ((I, T) : Mem) 536 (nI n) k = k (I 536 n) := aI_t (sh.2.2.2.2.2.2.2.2.2.2.2.2.2.2.2.2.2.2.2.2.2.2.2.2.2.2.2.2.2.2.2.2.2.2.2.2.2.2.2.2.2.2.2.2.1).2.1 (by rw [(sh.2.2.2.2.2.2.2.2.2.2.2.2.2.2.2.2.2.2.2.2.2.2.2.2.2.2.2.2.2.2.2.2.2.2.2.2.2.2.2.2.2.2.2.2.1).2.2]; exact h) (by omega)
theorem shM.s536 (sh : shM T) {k : Mem → Option α} (h : n < 6) : sI ((I, T) : Mem) 536 (nI n) v k = k ((u2 I 536 n v, T) : Mem) := sI_t (sh.2.2.2.2.2.2.2.2.2.2.2.2.2.2.2.2.2.2.2.2.2.2.2.2.2.2.2.2.2.2.2.2.2.2.2.2.2.2.2.2.2.2.2.2.1).2.1 (by rw [(sh.2.2.2.2.2.2.2.2.2.2.2.2.2.2.2.2.2.2.2.2.2.2.2.2.2.2.2.2.2.2.2.2.2.2.2.2.2.2.2.2.2.2.2.2.1).2.2]; exact h) (by omega)
theorem shM.g64 (sh : shM T) {k : Nat → Option α} : gA 13 64 ((I, T) : Mem) 492 k = k 537 := by
  rw [gA_t sh.1, (sh.2.2.2.2.2.2.2.2.2.2.2.2.2.2.2.2.2.2.2.2.2.2.2.2.2.2.2.2.2.2.2.2.2.2.2.2.2.2.2.2.2.2.2.2.2.1).1]
  rfl
theorem shM.a537 (sh : shM T) {k : Int32 → Option α} (h : n < 6) : aI ((I, T) : Mem) 537 (nI n) k = k (I 537 n) := aI_t (sh.2.2.2.2.2.2.2.2.2.2.2.2.2.2.2.2.2.2.2.2.2.2.2.2.2.2.2.2.2.2.2.2.2.2.2.2.2.2.2.2.2.2.2.2.2.1).2.1 (by rw [(sh.2.2.2.2.2.2.2.2.2.2.2.2.2.2.2.2.2.2.2.2.2.2.2.2.2.2.2.2.2.2.2.2.2.2.2.2.2.2.2.2.2.2.2.2.2.1).2.2]; exact h) (by omega)
theorem shM.s537 (sh : shM T) {k : Mem → Option α} (h : n < 6) : sI ((I, T) : Mem) 537 (nI n) v k = k ((u2 I 537 n v, T) : Mem) := sI_t (sh.2.2.2.2.2.2.2.2.2.2.2.2.2.2.2.2.2.2.2.2.2.2.2.2.2.2.2.2.2.2.2.2.2.2.2.2.2.2.2.2.2.2.2.2.2.1).2.1 (by rw [(sh.2.2.2.2.2.2.2.2.2.2.2.2.2.2.2.2.2.2.2.2.2.2.2.2.2.2.2.2.2.2.2.2.2.2.2.2.2.2.2.2.2.2.2.2.2.1).2.2]; exact h) (by omega)
theorem shM.g65 (sh : shM T) {k : Nat → Option α} : gA 13 65 ((I, T) : Mem) 492 k = k 538 := by
  rw [gA_t sh.1, (sh.2.2.2.2.2.2.2.2.2.2.2.2.2.2.2.2.2.2.2.2.2.2.2.2.2.2.2.2.2.2.2.2.2.2.2.2.2.2.2.2.2.2.2.2.2.2.1).1]
  rfl
theorem shM.a538 (sh : shM T) {k : Int32 → Option α} (h : n < 6) : aI ((I, T) : Mem) 538 (nI n) k = k (I 538 n) := aI_t (sh.2.2.2.2.2.2.2.2.2.2.2.2.2.2.2.2.2.2.2.2.2.2.2.2.2.2.2.2.2.2.2.2.2.2.2.2.2.2.2.2.2.2.2.2.2.2.1).2.1 (by rw [(sh.2.2.2.2.2.2.2.2.2.2.2.2.2.2.2.2.2.2.2.2.2.2.2.2.2.2.2.2.2.2.2.2.2.2.2.2.2.2.2.2.2.2.2.2.2.2.1).2.2]; exact h) (by omega)
theorem shM.s538 (sh : shM T) {k : Mem → Option α} (h : n < 6) : sI ((I, T) : Mem) 538 (nI n) v k = k ((u2 I 538 n v, T) : Mem) := sI_t (sh.2.2.2.2.2.2.2.2.2.2.2.2.2.2.2.2.2.2.2.2.2.2.2.2.2.2.2.2.2.2.2.2.2.2.2.2.2.2.2.2.2.2.2.2.2.2.1).2.1 (by rw [(sh.2.2.2.2.2.2.2.2.2.2.2.2.2.2.2.2.2.2.2.2.2.2.2.2.2.2.2.2.2.2.2.2.2.2.2.2.2.2.2.2.2.2.2.2.2.2.1).2.2]; exact h) (by omega)
theorem shM.g66 (sh : shM T) {k : Nat → Option α} : gA 13 66 ((I, T) : Mem) 492 k = k 539 := by
  rw [gA_t sh.1, (sh.2.2.2.2.2.2.2.2.2.2.2.2.2.2.2.2.2.2.2.2.2.2.2.2.2.2.2.2.2.2.2.2.2.2.2.2.2.2.2.2.2.2.2.2.2.2.2.1).1]
  rfl
theorem shM.a539 (sh : shM T) {k : Int32 → Option α} (h : n < 3) : aI ((I, T) : Mem) 539 (nI n) k = k (I 539 n) := aI_t (sh.2.2.2.2.2.2.2.2.2.2.2.2.2.2.2.2.2.2.2.2.2.2.2.2.2.2.2.2.2.2.2.2.2.2.2.2.2.2.2.2.2.2.2.2.2.2.2.1).2.1 (by rw [(sh.2.2.2.2.2.2.2.2.2.2.2.2.2.2.2.2.2.2.2.2.2.2.2.2.2.2.2.2.2.2.2.2.2.2.2.2.2.2.2.2.2.2.2.2.2.2.2.1).2.2]; exact h) (by omega)
theorem shM.s539 (sh : shM T) {k : Mem → Option α} (h : n < 3) : sI ((I, T) : Mem) 539 (nI n) v k = k ((u2 I 539 n v, T) : Mem) := sI_t (sh.2.2.2.2.2.2.2.2.2.2.2.2.2.2.2.2.2.2.2.2.2.2.2.2.2.2.2.2.2.2.2.2.2.2.2.2.2.2.2.2.2.2.2.2.2.2.2.1).2.1 (by rw [(sh.2.2.2.2.2.2.2.2.2.2.2.2.2.2.2.2.2.2.2.2.2.2.2.2.2.2.2.2.2.2.2.2.2.2.2.2.2.2.2.2.2.2.2.2.2.2.2.1).2.2]; exact h) (by omega)
theorem shM.g67 (sh : shM T) {k : Nat → Option α} : gA 13 67 ((I, T) : Mem) 492 k = k 540 := by
  rw [gA_t sh.1, (sh.2.2.2.2.2.2.2.2.2.2.2.2.2.2.2.2.2.2.2.2.2.2.2.2.2.2.2.2.2.2.2.2.2.2.2.2.2.2.2.2.2.2.2.2.2.2.2.2.1).1]
  rfl
theorem shM.a540 (sh : shM T) {k : Int32 → Option α} (h : n < 3) : aI ((I, T) : Mem) 540 (nI n) k = k (I 540 n) := aI_t (sh.2.2.2.2.2.2.2.2.2.2.2.2.2.2.2.2.2.2.2.2.2.2.2.2.2.2.2.2.2.2.2.2.2.2.2.2.2.2.2.2.2.2.2.2.2.2.2.2.1).2.1 (by rw [(sh.2.2.2.2.2.2.2.2.2.2.2.2.2.2.2.2.2.2.2.2.2.2.2.2.2.2.2.2.2.2.2.2.2.2.2.2.2.2.2.2.2.2.2.2.2.2.2.2.1).2.2]; exact h) (by omega)
theorem shM.s540 (sh : shM T) {k : Mem → Option α} (h : n < 3) : sI ((I, T) : Mem) 540 (nI n) v k = k ((u2 I 540 n v, T) : Mem) := sI_t (sh.2.2.2.2.2.2.2.2.2.2.2.2.2.2.2.2.2.2.2.2.2.2.2.2.2.2.2.2.2.2.2.2.2.2.2.2.2.2.2.2.2.2.2.2.2.2.2.2.1).2.1 (by rw [(sh.2.2.2.2.2.2.2.2.2.2.2.2.2.2.2.2.2.2.2.2.2.2.2.2.2.2.2.2.2.2.2.2.2.2.2.2.2.2.2.2.2.2.2.2.2.2.2.2.1).2.2]; exact h) (by omega)
theorem shM.g69 (sh : shM T) {k : Nat → Option α} : gA 13 69 ((I, T) : Mem) 492 k = k 541 := by
  rw [gA_t sh.1, (sh.2.2.2.2.2.2.2.2.2.2.2.2.2.2.2.2.2.2.2.2.2.2.2.2.2.2.2.2.2.2.2.2.2.2.2.2.2.2.2.2.2.2.2.2.2.2.2.2.2.1).1]
  rfl
theorem shM.a541 (sh : shM T) {k : Int32 → Option α} (h : n < 96) : aB ((I, T) : Mem) 541 (nI n) k = k (I 541 n) := aB_t (Or.inr (sh.2.2.2.2.2.2.2.2.2.2.2.2.2.2.2.2.2.2.2.2.2.2.2.2.2.2.2.2.2.2.2.2.2.2.2.2.2.2.2.2.2.2.2.2.2.2.2.2.2.1).2.1) (by rw [(sh.2.2.2.2.2.2.2.2.2.2.2.2.2.2.2.2.2.2.2.2.2.2.2.2.2.2.2.2.2.2.2.2.2.2.2.2.2.2.2.2.2.2.2.2.2.2.2.2.2.1).2.2]; exact h) (by omega)
theorem shM.s541 (sh : shM T) {k : Mem → Option α} (h : n < 96) (hm : m < 2) : sB ((I, T) : Mem) 541 (nI n) (nI m) k = k ((u2 I 541 n (nI m), T) : Mem) := sB_t (sh.2.2.2.2.2.2.2.2.2.2.2.2.2.2.2.2.2.2.2.2.2.2.2.2.2.2.2.2.2.2.2.2.2.2.2.2.2.2.2.2.2.2.2.2.2.2.2.2.2.1).2.1 (by rw [(sh.2.2.2.2.2.2.2.2.2.2.2.2.2.2.2.2.2.2.2.2.2.2.2.2.2.2.2.2.2.2.2.2.2.2.2.2.2.2.2.2.2.2.2.2.2.2.2.2.2.1).2.2]; exact h) (by omega) hm
theorem shM.g70 (sh : shM T) {k : Nat → Option α} : gA 13 70 ((I, T) : Mem) 492 k = k 542 := by
  rw [gA_t sh.1, (sh.2.2.2.2.2.2.2.2.2.2.2.2.2.2.2.2.2.2.2.2.2.2.2.2.2.2.2.2.2.2.2.2.2.2.2.2.2.2.2.2.2.2.2.2.2.2.2.2.2.2.1).1]
  rfl
theorem shM.a542 (sh : shM T) {k : Int32 → Option α} (h : n < 96) : aI ((I, T) : Mem) 542 (nI n) k = k (I 542 n) := aI_t (sh.2.2.2.2.2.2.2.2.2.2.2.2.2.2.2.2.2.2.2.2.2.2.2.2.2.2.2.2.2.2.2.2.2.2.2.2.2.2.2.2.2.2.2.2.2.2.2.2.2.2.1).2.1 (by rw [(sh.2.2.2.2.2.2.2.2.2.2.2.2.2.2.2.2.2.2.2.2.2.2.2.2.2.2.2.2.2.2.2.2.2.2.2.2.2.2.2.2.2.2.2.2.2.2.2.2.2.2.1).2.2]; exact h) (by omega)
theorem shM.s542 (sh : shM T) {k : Mem → Option α} (h : n < 96) : sI ((I, T) : Mem) 542 (nI n) v k = k ((u2 I 542 n v, T) : Mem) := sI_t (sh.2.2.2.2.2.2.2.2.2.2.2.2.2.2.2.2.2.2.2.2.2.2.2.2.2.2.2.2.2.2.2.2.2.2.2.2.2.2.2.2.2.2.2.2.2.2.2.2.2.2.1).2.1 (by rw [(sh.2.2.2.2.2.2.2.2.2.2.2.2.2.2.2.2.2.2.2.2.2.2.2.2.2.2.2.2.2.2.2.2.2.2.2.2.2.2.2.2.2.2.2.2.2.2.2.2.2.2.1).2.2]; exact h) (by omega)
theorem shM.g71 (sh : shM T) {k : Nat → Option α} : gA 13 71 ((I, T) : Mem) 492 k = k 543 := by
  rw [gA_t sh.1, (sh.2.2.2.2.2.2.2.2.2.2.2.2.2.2.2.2.2.2.2.2.2.2.2.2.2.2.2.2.2.2.2.2.2.2.2.2.2.2.2.2.2.2.2.2.2.2.2.2.2.2.2.1).1]
  rfl
theorem shM.a543 (sh : shM T) {k : Int32 → Option α} (h : n < 96) : aI ((I, T) : Mem) 543 (nI n) k = k (I 543 n) := aI_t (sh.2.2.2.2.2.2.2.2.2.2.2.2.2.2.2.2.2.2.2.2.2.2.2.2.2.2.2.2.2.2.2.2.2.2.2.2.2.2.2.2.2.2.2.2.2.2.2.2.2.2.2.1).2.1 (by rw [(sh.2.2.2.2.2.2.2.2.2.2.2.2.2.2.2.2.2.2.2.2.2.2.2.2.2.2.2.2.2.2.2.2.2.2.2.2.2.2.2.2.2.2.2.2.2.2.2.2.2.2.2.1).2.2]; exact h) (by omega)
theorem shM.s543 (sh : shM T) {k : Mem → Option α} (h : n < 96) : sI ((I, T) : Mem) 543 (nI n) v k = k ((u2 I 543 n v, T) : Mem) := sI_t (sh.2.2.2.2.2.2.2.2.2.2.2.2.2.2.2.2.2.2.2.2.2.2.2.2.2.2.2.2.2.2.2.2.2.2.2.2.2.2.2.2.2.2.2.2.2.2.2.2.2.2.2.1).2.1 (by rw [(sh.2.2.2.2.2.2.2.2.2.2.2.2.2.2.2.2.2.2.2.2.2.2.2.2.2.2.2.2.2.2.2.2.2.2.2.2.2.2.2.2.2.2.2.2.2.2.2.2.2.2.2.1).2.2]; exact h) (by omega)
theorem shM.g72 (sh : shM T) {k : Nat → Option α} : gA 13 72 ((I, T) : Mem) 492 k = k 544 := by
  rw [gA_t sh.1, (sh.2.2.2.2.2.2.2.2.2.2.2.2.2.2.2.2.2.2.2.2.2.2.2.2.2.2.2.2.2.2.2.2.2.2.2.2.2.2.2.2.2.2.2.2.2.2.2.2.2.2.2.2.1).1]
  rfl
theorem shM.a544 (sh : shM T) {k : Int32 → Option α} (h : n < 30) : aI ((I, T) : Mem) 544 (nI n) k = k (I 544 n) := aI_t (sh.2.2.2.2.2.2.2.2.2.2.2.2.2.2.2.2.2.2.2.2.2.2.2.2.2.2.2.2.2.2.2.2.2.2.2.2.2.2.2.2.2.2.2.2.2.2.2.2.2.2.2.2.1).2.1 (by rw [(sh.2.2.2.2.2.2.2.2.2.2.2.2.2.2.2.2.2.2.2.2.2.2.2.2.2.2.2.2.2.2.2.2.2.2.2.2.2.2.2.2.2.2.2.2.2.2.2.2.2.2.2.2.1).2.2]; exact h) (by omega)
theorem shM.s544 (sh : shM T) {k : Mem → Option α} (h : n < 30) : sI ((I, T) : Mem) 544 (nI n) v k = k ((u2 I 544 n v, T) : Mem) := sI_t (sh.2.2.2.2.2.2.2.2.2.2.2.2.2.2.2.2.2.2.2.2.2.2.2.2.2.2.2.2.2.2.2.2.2.2.2.2.2.2.2.2.2.2.2.2.2.2.2.2.2.2.2.2.1).2.1 (by rw [(sh.2.2.2.2.2.2.2.2.2.2.2.2.2.2.2.2.2.2.2.2.2.2.2.2.2.2.2.2.2.2.2.2.2.2.2.2.2.2.2.2.2.2.2.2.2.2.2.2.2.2.2.2.1).2.2]; exact h) (by omega)
theorem shM.g73 (sh : shM T) {k : Nat → Option α} : gA 13 73 ((I, T) : Mem) 492 k = k 545 := by
  rw [gA_t sh.1, (sh.2.2.2.2.2.2.2.2.2.2.2.2.2.2.2.2.2.2.2.2.2.2.2.2.2.2.2.2.2.2.2.2.2.2.2.2.2.2.2.2.2.2.2.2.2.2.2.2.2.2.2.2.2.1).1]
  rfl
theorem shM.a545 (sh : shM T) {k : Int32 → Option α} (h : n < 30) : aI ((I, T) : Mem) 545 (nI n) k = k (I 545 n) := aI_t (sh.2.2.2.2.2.2.2.2.2.2.2.2.2.2.2.2.2.2.2.2.2.2.2.2.2.2.2.2.2.2.2.2.2.2.2.2.2.2.2.2.2.2.2.2.2.2.2.2.2.2.2.2.2.1).2.1 (by rw [(sh.2.2.2.2.2.2.2.2.2.2.2.2.2.2.2.2.2.2.2.2.2.2.2.2.2.2.2.2.2.2.2.2.2.2.2.2.2.2.2.2.2.2.2.2.2.2.2.2.2.2.2.2.2.1).2.2]; exact h) (by omega)
theorem shM.s545 (sh : shM T) {k : Mem → Option α} (h : n < 30) : sI ((I, T) : Mem) 545 (nI n) v k = k ((u2 I 545 n v, T) : Mem) := sI_t (sh.2.2.2.2.2.2.2.2.2.2.2.2.2.2.2.2.2.2.2.2.2.2.2.2.2.2.2.2.2.2.2.2.2.2.2.2.2.2.2.2.2.2.2.2.2.2.2.2.2.2.2.2.2.1).2.1 (by rw [(sh.2.2.2.2.2.2.2.2.2.2.2.2.2.2.2.2.2.2.2.2.2.2.2.2.2.2.2.2.2.2.2.2.2.2.2.2.2.2.2.2.2.2.2.2.2.2.2.2.2.2.2.2.2.1).2.2]; exact h) (by omega)
theorem shM.g74 (sh : shM T) {k : Nat → Option α} : gA 13 74 ((I, T) : Mem) 492 k = k 546 := by
  rw [gA_t sh.1, (sh.2.2.2.2.2.2.2.2.2.2.2.2.2.2.2.2.2.2.2.2.2.2.2.2.2.2.2.2.2.2.2.2.2.2.2.2.2.2.2.2.2.2.2.2.2.2.2.2.2.2.2.2.2.2.1).1]
  rfl
theorem shM.a546 (sh : shM T) {k : Int32 → Option α} (h : n < 30) : aI ((I, T) : Mem) 546 (nI n) k = k (I 546 n) := aI_t (sh.2.2.2.2.2.2.2.2.2.2.2.2.2.2.2.2.2.2.2.2.2.2.2.2.2.2.2.2.2.2.2.2.2.2.2.2.2.2.2.2.2.2.2.2.2.2.2.2.2.2.2.2.2.2.1).2.1 (by rw [(sh.2.2.2.2.2.2.2.2.2.2.2.2.2.2.2.2.2.2.2.2.2.2.2.2.2.2.2.2.2.2.2.2.2.2.2.2.2.2.2.2.2.2.2.2.2.2.2.2.2.2.2.2.2.2.1).2.2]; exact h) (by omega)
theorem shM.s546 (sh : shM T) {k : Mem → Option α} (h : n < 30) : sI ((I, T) : Mem) 546 (nI n) v k = k ((u2 I 546 n v, T) : Mem) := sI_t (sh.2.2.2.2.2.2.2.2.2.2.2.2.2.2.2.2.2.2.2.2.2.2.2.2.2.2.2.2.2.2.2.2.2.2.2.2.2.2.2.2.2.2.2.2.2.2.2.2.2.2.2.2.2.2.1).2.1 (by rw [(sh.2.2.2.2.2.2.2.2.2.2.2.2.2.2.2.2.2.2.2.2.2.2.2.2.2.2.2.2.2.2.2.2.2.2.2.2.2.2.2.2.2.2.2.2.2.2.2.2.2.2.2.2.2.2.1).2.2]; exact h) (by omega)
theorem shM.g75 (sh : shM T) {k : Nat → Option α} : gA 13 75 ((I, T) : Mem) 492 k = k 547 := by
  rw [gA_t sh.1, (sh.2.2.2.2.2.2.2.2.2.2.2.2.2.2.2.2.2.2.2.2.2.2.2.2.2.2.2.2.2.2.2.2.2.2.2.2.2.2.2.2.2.2.2.2.2.2.2.2.2.2.2.2.2.2.2.1).1]
  rfl
theorem shM.a547 (sh : shM T) {k : Int32 → Option α} (h : n < 8) : aI ((I, T) : Mem) 547 (nI n) k = k (I 547 n) := aI_t (sh.2.2.2.2.2.2.2.2.2.2.2.2.2.2.2.2.2.2.2.2.2.2.2.2.2.2.2.2.2.2.2.2.2.2.2.2.2.2.2.2.2.2.2.2.2.2.2.2.2.2.2.2.2.2.2.1).2.1 (by rw [(sh.2.2.2.2.2.2.2.2.2.2.2.2.2.2.2.2.2.2.2.2.2.2.2.2.2.2.2.2.2.2.2.2.2.2.2.2.2.2.2.2.2.2.2.2.2.2.2.2.2.2.2.2.2.2.2.1).2.2]; exact h) (by omega)
theorem shM.s547 (sh : shM T) {k : Mem → Option α} (h : n < 8) : sI ((I, T) : Mem) 547 (nI n) v k = k ((u2 I 547 n v, T) : Mem) := sI_t (sh.2.2.2.2.2.2.2.2.2.2.2.2.2.2.2.2.2.2.2.2.2.2.2.2.2.2.2.2.2.2.2.2.2.2.2.2.2.2.2.2.2.2.2.2.2.2.2.2.2.2.2.2.2.2.2.1).2.1 (by rw [(sh.2.2.2.2.2.2.2.2.2.2.2.2.2.2.2.2.2.2.2.2.2.2.2.2.2.2.2.2.2.2.2.2.2.2.2.2.2.2.2.2.2.2.2.2.2.2.2.2.2.2.2.2.2.2.2.1).2.2]; exact h) (by omega)
theorem shM.g76 (sh : shM T) {k : Nat → Option α} : gA 13 76 ((I, T) : Mem) 492 k = k 548 := by
  rw [gA_t sh.1, (sh.2.2.2.2.2.2.2.2.2.2.2.2.2.2.2.2.2.2.2.2.2.2.2.2.2.2.2.2.2.2.2.2.2.2.2.2.2.2.2.2.2.2.2.2.2.2.2.2.2.2.2.2.2.2.2.2.1).1]
  rfl
theorem shM.a548 (sh : shM T) {k : Int32 → Option α} (h : n < 8) : aI ((I, T) : Mem) 548 (nI n) k = k (I 548 n) := aI_t (sh.2.2.2.2.2.2.2.2.2.2.2.2.2.2.2.2.2.2.2.2.2.2.2.2.2.2.2.2.2.2.2.2.2.2.2.2.2.2.2.2.2.2.2.2.2.2.2.2.2.2.2.2.2.2.2.2.1).2.1 (by rw [(sh.2.2.2.2.2.2.2.2.2.2.2.2.2.2.2.2.2.2.2.2.2.2.2.2.2.2.2.2.2.2.2.2.2.2.2.2.2.2.2.2.2.2.2.2.2.2.2.2.2.2.2.2.2.2.2.2.1).2.2]; exact h) (by omega)
theorem shM.s548 (sh : shM T) {k : Mem → Option α} (h : n < 8) : sI ((I, T) : Mem) 548 (nI n) v k = k ((u2 I 548 n v, T) : Mem) := sI_t (sh.2.2.2.2.2.2.2.2.2.2.2.2.2.2.2.2.2.2.2.2.2.2.2.2.2.2.2.2.2.2.2.2.2.2.2.2.2.2.2.2.2.2.2.2.2.2.2.2.2.2.2.2.2.2.2.2.1).2.1 (by rw [(sh.2.2.2.2.2.2.2.2.2.2.2.2.2.2.2.2.2.2.2.2.2.2.2.2.2.2.2.2.2.2.2.2.2.2.2.2.2.2.2.2.2.2.2.2.2.2.2.2.2.2.2.2.2.2.2.2.1).2.2]; exact h) (by omega)
theorem shM.g79 (sh : shM T) {k : Nat → Option α} : gA 13 79 ((I, T) : Mem) 492 k = k 549 := by
  rw [gA_t sh.1, (sh.2.2.2.2.2.2.2.2.2.2.2.2.2.2.2.2.2.2.2.2.2.2.2.2.2.2.2.2.2.2.2.2.2.2.2.2.2.2.2.2.2.2.2.2.2.2.2.2.2.2.2.2.2.2.2.2.2).1]
  rfl
theorem shM.a549 (sh : shM T) {k : Int32 → Option α} (h : n < 80) : aI ((I, T) : Mem) 549 (nI n) k = k (I 549 n) := aI_t (sh.2.2.2.2.2.2.2.2.2.2.2.2.2.2.2.2.2.2.2.2.2.2.2.2.2.2.2.2.2.2.2.2.2.2.2.2.2.2.2.2.2.2.2.2.2.2.2.2.2.2.2.2.2.2.2.2.2).2.1 (by rw [(sh.2.2.2.2.2.2.2.2.2.2.2.2.2.2.2.2.2.2.2.2.2.2.2.2.2.2.2.2.2.2.2.2.2.2.2.2.2.2.2.2.2.2.2.2.2.2.2.2.2.2.2.2.2.2.2.2.2).2.2]; exact h) (by omega)
theorem shM.s549 (sh : shM T) {k : Mem → Option α} (h : n < 80) : sI ((I, T) : Mem) 549 (nI n) v k = k ((u2 I 549 n v, T) : Mem) := sI_t (sh.2.2.2.2.2.2.2.2.2.2.2.2.2.2.2.2.2.2.2.2.2.2.2.2.2.2.2.2.2.2.2.2.2.2.2.2.2.2.2.2.2.2.2.2.2.2.2.2.2.2.2.2.2.2.2.2.2).2.1 (by rw [(sh.2.2.2.2.2.2.2.2.2.2.2.2.2.2.2.2.2.2.2.2.2.2.2.2.2.2.2.2.2.2.2.2.2.2.2.2.2.2.2.2.2.2.2.2.2.2.2.2.2.2.2.2.2.2.2.2.2).2.2]; exact h) (by omega)
end
