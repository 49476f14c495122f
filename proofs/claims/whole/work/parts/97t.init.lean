/-! THE START: what the two constructors make -/
def st0 (X : Nat × (Nat → Int32)) : Mem := (fun _ _ => 0, fun _ _ => 0, fun _ _ => none, fun _ => 0, fun _ => 0, 0, 0, X)
def prog (M : Mem) : Option Mem := nO M 12 6 fun _ M2 => cV (f_x_init 0 M2) fun M3 => nO M3 13 81 fun _ M5 => cV (f_m_init 492 M5) fun M6 => some M6
def W0 : Mem := (prog (st0 (0, fun _ => 0))).getD (st0 (0, fun _ => 0))
/-- the script put into a memory -/
def sX (M : Mem) (X : Nat × (Nat → Int32)) : Mem := (M.1, M.2.1, M.2.2.1, M.2.2.2.1, M.2.2.2.2.1, M.2.2.2.2.2.1, M.2.2.2.2.2.2.1, X)
/-- the places that a constructor may write -/
def wr (kd j : Nat) : Bool := decide (kd = 9 ∧ j = 3) || decide (kd = 6 ∧ 6 ≤ j ∧ j ≤ 9) || decide (kd = 10 ∧ j < 4) || decide (kd = 13 ∧ 7 ≤ j ∧ j ≤ 10) || decide (kd = 14 ∧ j = 1) || decide (kd = 100 ∧ j < 2)
/-- all else is zero -/
def NZ (M : Mem) : Prop := ∀ a j, wr (mK M a) j = false → mI M a j = 0
/-- the script doesn't matter; nothing else is written -/
def Ok (f : Mem → Option Mem) : Prop := (∀ M X, f (sX M X) = (f M).map (fun M' => sX M' X)) ∧ ∀ M M', NZ M → f M = some M' → NZ M'
section
variable {k : Mem → Option Mem} {h : Nat → Mem → Option Mem} {u : Int32 → Mem → Option Mem} {f : Mem → Option Mem} {a b c j kd len : Nat} {i v : Int32}
theorem ok_some : Ok (fun M => some M) := ⟨fun _ _ => rfl, fun M M' z e => by cases e; exact z⟩
theorem ok_none : Ok (fun _ => none) := ⟨fun _ _ => rfl, fun M M' z e => by cases e⟩
theorem ok_if {P : Mem → Prop} [∀ M, Decidable (P M)] {w : Mem → Mem} (hP : ∀ M X, P (sX M X) = P M) (hu : ∀ M X, w (sX M X) = sX (w M) X) (hz : ∀ M, P M → NZ M → NZ (w M)) (hk : Ok k) : Ok (fun M => if P M then k (w M) else none) := by
  refine ⟨fun M X => ?_, fun M M' z e => ?_⟩
  · show (if P (sX M X) then k (w (sX M X)) else none) = Option.map _ (if P M then k (w M) else none)
    by_cases hp : P M
    · rw [if_pos hp, if_pos (show P (sX M X) from cast (hP M X).symm hp), hu]; exact hk.1 _ _
    · rw [if_neg hp, if_neg (show ¬ P (sX M X) from fun z => hp (cast (hP M X) z))]; rfl
  · have e' : (if P M then k (w M) else none) = some M' := e
    by_cases hp : P M
    · rw [if_pos hp] at e'; exact hk.2 _ _ (hz M hp z) e'
    · rw [if_neg hp] at e'; cases e'
theorem NZ_w {M : Mem} (hk : mK M a = c) (hj : wr c j = true) (z : NZ M) : NZ (wI M a j v) := fun x y hy => by
  have e : mI (wI M a j v) x y = u2 (mI M) a j v x y := rfl
  have hy' : wr (mK M x) y = false := hy
  rw [e]
  unfold u2
  rw [if_neg (fun w => by
    rw [w.1, w.2, hk, hj] at hy'
    cases hy')]
  exact z x y hy'
theorem NZ_n {M : Mem} (z : NZ M) : NZ (nC M kd len) := fun x y hy => by
  have e : mI (nC M kd len) x y = r2 (mI M) (mn M) (fun _ => 0) x y := rfl
  have ek : mK (nC M kd len) x = u1 (mK M) (mn M) kd x := rfl
  rw [e]
  rw [ek] at hy
  unfold r2
  unfold u1 at hy
  split
  · rfl
  · rename_i hx
    rw [if_neg hx] at hy
    exact z x y hy
theorem ok_pR (hk : Ok k) : Ok (fun M => pR c j M a b k) := ok_if (P := fun M => mK M a = c) (w := fun M => wR M a j (some b)) (fun _ _ => rfl) (fun _ _ => rfl) (fun _ _ z => z) hk
theorem ok_pI (hj : wr c j = true) (hk : Ok k) : Ok (fun M => pI c j M a v k) := ok_if (P := fun M => mK M a = c) (w := fun M => wI M a j v) (fun _ _ => rfl) (fun _ _ => rfl) (fun _ p z => NZ_w p hj z) hk
theorem ok_pB (hj : wr c j = true) (hk : Ok k) : Ok (fun M => pB c j M a v k) := ok_if (P := fun M => mK M a = c ∧ (vp_nar .byte v = v ∧ fits .byte (.int v) = true)) (w := fun M => wI M a j v) (fun _ _ => rfl) (fun _ _ => rfl) (fun _ p z => NZ_w p.1 hj z) hk
theorem ok_sI (hj : wr 100 i.toNatClampNeg = true) (hk : Ok k) : Ok (fun M => sI M a i v k) := ok_if (P := fun M => mK M a = 100 ∧ inR i (mL M a) = true) (w := fun M => wI M a i.toNatClampNeg v) (fun _ _ => rfl) (fun _ _ => rfl) (fun _ p z => NZ_w p.1 hj z) hk
theorem ok_sR (hk : Ok k) : Ok (fun M => sR M a i b k) := ok_if (P := fun M => ((mK M a = 103 ∧ mK M b = 1) ∨ (mK M a = 104 ∧ mK M b = 3) ∨ (mK M a = 105 ∧ mK M b = 6)) ∧ inR i (mL M a) = true) (w := fun M => wR M a i.toNatClampNeg (some b)) (fun _ _ => rfl) (fun _ _ => rfl) (fun _ _ z => z) hk
theorem ok_nO (hk : ∀ a, Ok (h a)) : Ok (fun M => nO M kd len h) := ⟨fun M X => (hk (mn M)).1 (nC M kd len) X, fun M M' z e => (hk (mn M)).2 _ _ (NZ_n z) e⟩
theorem ok_nA (hk : ∀ a, Ok (h a)) : Ok (fun M => nA M kd v h) := by
  refine ⟨fun M X => ?_, fun M M' z e => ?_⟩
  · show (if ¬ v < 0 ∧ v.toNatClampNeg ≤ 1000000 then h (mn M) (sX (nC M kd v.toNatClampNeg) X) else none) = Option.map _ (if ¬ v < 0 ∧ v.toNatClampNeg ≤ 1000000 then h (mn M) (nC M kd v.toNatClampNeg) else none)
    split
    · exact (hk (mn M)).1 _ X
    · rfl
  · have e' : (if ¬ v < 0 ∧ v.toNatClampNeg ≤ 1000000 then h (mn M) (nC M kd v.toNatClampNeg) else none) = some M' := e
    split at e'
    · exact (hk (mn M)).2 _ _ (NZ_n z) e'
    · cases e'
theorem ok_gA (hk : ∀ b, Ok (h b)) : Ok (fun M => gA c j M a (fun b => h b M)) := by
  refine ⟨fun M X => ?_, fun M M' z e => ?_⟩
  · show (if mK M a = c then onR (mR M a j) none (fun b => h b (sX M X)) else none) = Option.map _ (if mK M a = c then onR (mR M a j) none (fun b => h b M) else none)
    split
    · cases mR M a j with
      | none => rfl
      | some b => exact (hk b).1 M X
    · rfl
  · have e' : (if mK M a = c then onR (mR M a j) none (fun b => h b M) else none) = some M' := e
    split at e'
    · cases hm : mR M a j with
      | none => rw [hm] at e'; cases e'
      | some b => rw [hm] at e'; exact (hk b).2 _ _ z e'
    · cases e'
theorem ok_aN (hk : ∀ v, Ok (u v)) : Ok (fun M => aN M a (fun v => u v M)) := by
  refine ⟨fun M X => ?_, fun M M' z e => ?_⟩
  · show (if 100 ≤ mK M a ∧ mK M a < 106 then u (Int32.ofNat (mL M a)) (sX M X) else none) = Option.map _ (if 100 ≤ mK M a ∧ mK M a < 106 then u (Int32.ofNat (mL M a)) M else none)
    split
    · exact (hk _).1 M X
    · rfl
  · have e' : (if 100 ≤ mK M a ∧ mK M a < 106 then u (Int32.ofNat (mL M a)) M else none) = some M' := e
    split at e'
    · exact (hk _).2 _ _ z e'
    · cases e'
theorem ok_ck (hk : Ok k) : Ok (fun M => ck M a c (k M)) := ok_if (P := fun M => mK M a = c) (w := fun M => M) (fun _ _ => rfl) (fun _ _ => rfl) (fun _ _ z => z) hk
theorem ok_ite {p : Prop} [Decidable p] (h1 : Ok f) (h2 : Ok k) : Ok (fun M => if p then f M else k M) := by
  by_cases hp : p
  · simp only [if_pos hp]; exact h1
  · simp only [if_neg hp]; exact h2
theorem ok_cV (h1 : Ok f) (h2 : Ok k) : Ok (fun M => cV (f M) k) := by
  refine ⟨fun M X => ?_, fun M M' z e => ?_⟩
  · show cV (f (sX M X)) k = Option.map _ (cV (f M) k)
    rw [h1.1]
    cases f M with
    | none => rfl
    | some M1 => exact h2.1 M1 X
  · have e' : cV (f M) k = some M' := e
    cases hf : f M with
    | none => rw [hf] at e'; cases e'
    | some M1 => rw [hf] at e'; exact h2.2 _ _ (h1.2 _ _ z hf) e'
theorem k_ab {p : Nat} {v : Int32} : Ok (f_ab_init p v) := by
  show Ok (fun M => f_ab_init p v M)
  unfold f_ab_init
  exact ok_nA (fun _ => ok_pR (ok_pB (by decide) (ok_some)))
theorem k_sb {p : Nat} : Ok (f_sb_init p) := by
  show Ok (fun M => f_sb_init p M)
  unfold f_sb_init
  exact ok_cV k_ab (ok_some)
theorem k_rd {p q : Nat} : Ok (f_rd_init p q) := by
  show Ok (fun M => f_rd_init p q M)
  unfold f_rd_init
  exact ok_nA (fun _ => ok_pR (ok_nA (fun _ => ok_pR (ok_nA (fun _ => ok_pR (ok_nA (fun _ => ok_pR (ok_pR (ok_some)))))))))
theorem k_se {p : Nat} : Ok (f_se_init p) := by
  show Ok (fun M => f_se_init p M)
  unfold f_se_init
  exact ok_pI (by decide) (ok_pI (by decide) (ok_pI (by decide) (ok_pI (by decide) (ok_some))))
theorem k_rc {p : Nat} {v : Int32} : Ok (f_rc_init p v) := by
  show Ok (fun M => f_rc_init p v M)
  unfold f_rc_init
  exact ok_nA (fun _ => ok_pR (ok_nA (fun _ => ok_pR (ok_nA (fun _ => ok_pR (ok_pI (by decide) (ok_some)))))))
theorem k_la {p : Nat} : Ok (f_la_init p) := by
  show Ok (fun M => f_la_init p M)
  unfold f_la_init
  exact ok_nA (fun _ => ok_pR (ok_some))
theorem k_ky {p : Nat} : Ok (f_ky_init p) := by
  show Ok (fun M => f_ky_init p M)
  unfold f_ky_init
  exact ok_nA (fun _ => ok_pR (ok_nA (fun _ => ok_pR (ok_some))))
theorem k_is {p : Nat} : Ok (f_is_init p) := by
  show Ok (fun M => f_is_init p M)
  unfold f_is_init
  exact ok_nO (fun _ => ok_cV k_rc (ok_pR (ok_some)))
theorem k_be {p : Nat} {a b c d : Int32} : Ok (f_op_become p a b c d) := by
  show Ok (fun M => f_op_become p a b c d M)
  unfold f_op_become
  exact ok_pI (by decide) (ok_pI (by decide) (ok_pI (by decide) (ok_pI (by decide) (ok_some))))
theorem k_op70 {p : Nat} {v : Int32} : ∀ (n : Nat) (i : Int32), Ok (f_op_init_70 n p v i)
  | 0, i => ok_none
  | n + 1, i => by
    show Ok (fun M => f_op_init_70 (n + 1) p v i M)
    unfold f_op_init_70
    exact ok_gA (fun _ => ok_aN (fun _ => ok_ite (ok_ck (ok_cV k_be ok_some)) (ok_gA (fun _ => ok_nO (fun _ => ok_cV k_is (ok_sR (k_op70 n _)))))))
theorem k_op {p : Nat} {v : Int32} : Ok (f_op_init p v) := by
  show Ok (fun M => f_op_init p v M)
  unfold f_op_init
  exact ok_nA (fun _ => ok_pR (ok_nO (fun _ => ok_cV k_ky (ok_pR (ok_nO (fun _ => ok_cV k_ky (ok_pR (ok_nO (fun _ => ok_cV k_ky (ok_pR (ok_nO (fun _ => ok_cV k_ky (ok_pR (ok_nO (fun _ => ok_cV k_rc (ok_pR ((k_op70 _ _))))))))))))))))))
theorem k_ch {p q : Nat} : Ok (f_ch_init p q) := by
  show Ok (fun M => f_ch_init p q M)
  unfold f_ch_init
  exact ok_nO (fun _ => ok_cV k_rc (ok_pR (ok_nA (fun _ => ok_pR (ok_pR (ok_some))))))
theorem k_sm100 {p : Nat} : ∀ (n : Nat) (i : Int32), Ok (f_sm_init_100 n p i)
  | 0, i => ok_none
  | n + 1, i => by
    show Ok (fun M => f_sm_init_100 (n + 1) p i M)
    unfold f_sm_init_100
    exact ok_gA (fun _ => ok_aN (fun _ => ok_ite ok_some (ok_gA (fun _ => ok_nO (fun _ => ok_gA (fun _ => ok_cV k_ch (ok_sR (k_sm100 n _))))))))
theorem k_sm59 {p : Nat} : ∀ (n : Nat) (i : Int32), Ok (f_sm_init_59 n p i)
  | 0, i => ok_none
  | n + 1, i => by
    show Ok (fun M => f_sm_init_59 (n + 1) p i M)
    unfold f_sm_init_59 f_sm_init_88
    exact ok_gA (fun _ => ok_aN (fun _ => ok_ite (k_sm100 _ _) (ok_gA (fun _ => ok_nO (fun _ => ok_ite (ok_cV k_op (ok_sR (k_sm59 n _))) (ok_cV k_op (ok_sR (k_sm59 n _))))))))
theorem k_sm {p : Nat} : Ok (f_sm_init p) := by
  show Ok (fun M => f_sm_init p M)
  unfold f_sm_init
  exact ok_nO (fun _ => ok_cV k_se (ok_pR (ok_nO (fun _ => ok_cV k_rc (ok_pR (ok_nA (fun _ => ok_pR (ok_nA (fun _ => ok_pR (ok_nO (fun _ => ok_cV k_la (ok_pR ((k_sm59 _ _))))))))))))))
theorem k_pl {p q : Nat} : Ok (f_pl_init p q) := by
  show Ok (fun M => f_pl_init p q M)
  unfold f_pl_init
  exact ok_pR (ok_some)
theorem k_ex {p q : Nat} : Ok (f_ex_init p q) := by
  show Ok (fun M => f_ex_init p q M)
  unfold f_ex_init
  exact ok_nA (fun _ => ok_pR (ok_nA (fun _ => ok_pR (ok_pR (ok_some)))))
theorem k_x {p : Nat} : Ok (f_x_init p) := by
  show Ok (fun M => f_x_init p M)
  unfold f_x_init
  exact ok_nO (fun _ => ok_cV k_sb (ok_pR (ok_nO (fun _ => ok_cV k_sb (ok_pR (ok_nO (fun _ => ok_gA (fun _ => ok_cV k_rd (ok_pR (ok_nO (fun _ => ok_cV k_sm (ok_pR (ok_nO (fun _ => ok_gA (fun _ => ok_cV k_pl (ok_pR (ok_nO (fun _ => ok_gA (fun _ => ok_cV k_ex (ok_pR (ok_some)))))))))))))))))))))
theorem k_m {p : Nat} : Ok (f_m_init p) := by
  show Ok (fun M => f_m_init p M)
  unfold f_m_init
  exact ok_nA (fun _ => ok_pR (ok_nA (fun _ => ok_pR (ok_nA (fun _ => ok_pR (ok_nA (fun _ => ok_pR (ok_nA (fun _ => ok_pR (ok_pI (by decide) (ok_pI (by decide) (ok_pI (by decide) (ok_pI (by decide) (ok_nA (fun _ => ok_pR (ok_nA (fun _ => ok_pR (ok_nA (fun _ => ok_pR (ok_nA (fun _ => ok_pR (ok_nA (fun _ => ok_pR (ok_nA (fun _ => ok_pR (ok_nA (fun _ => ok_pR (ok_nA (fun _ => ok_pR (ok_nA (fun _ => ok_pR (ok_nA (fun _ => ok_pR (ok_nA (fun _ => ok_pR (ok_nA (fun _ => ok_pR (ok_nA (fun _ => ok_pR (ok_nA (fun _ => ok_pR (ok_nA (fun _ => ok_pR (ok_nA (fun _ => ok_pR (ok_nA (fun _ => ok_pR (ok_nA (fun _ => ok_pR (ok_nA (fun _ => ok_pR (ok_nA (fun _ => ok_pR (ok_nA (fun _ => ok_pR (ok_nA (fun _ => ok_pR (ok_nA (fun _ => ok_pR (ok_nA (fun _ => ok_pR (ok_nA (fun _ => ok_pR (ok_nA (fun _ => ok_pR (ok_nA (fun _ => ok_pR (ok_nA (fun _ => ok_pR (ok_nA (fun _ => ok_pR (ok_nA (fun _ => ok_pR (ok_nA (fun _ => ok_pR (ok_nA (fun _ => ok_pR (ok_nA (fun _ => ok_pR (ok_nA (fun _ => ok_pR (ok_nA (fun _ => ok_pR (ok_nA (fun _ => ok_pR (ok_nA (fun _ => ok_pR (ok_nA (fun _ => ok_pR (ok_nA (fun _ => ok_pR (ok_nA (fun _ => ok_pR (ok_nA (fun _ => ok_pR (ok_nA (fun _ => ok_pR (ok_nA (fun _ => ok_pR (ok_nA (fun _ => ok_pR (ok_nA (fun _ => ok_pR (ok_nA (fun _ => ok_pR (ok_nA (fun _ => ok_pR (ok_nA (fun _ => ok_pR (ok_nA (fun _ => ok_pR (ok_nA (fun _ => ok_pR (ok_nA (fun _ => ok_pR (ok_nA (fun _ => ok_pR (ok_gA (fun _ => ok_sI (by decide) (ok_gA (fun _ => ok_sI (by decide) (ok_gA (fun _ => ok_sI (by decide) (ok_gA (fun _ => ok_sI (by decide) (ok_some))))))))))))))))))))))))))))))))))))))))))))))))))))))))))))))))))))))))))))))))))))))))))))))))))))))))))))))))))))))))))))))
theorem k_prog : Ok prog := by
  show Ok (fun M => prog M)
  unfold prog
  exact ok_nO (fun _ => ok_cV k_x (ok_nO (fun _ => ok_cV k_m ok_some)))
/-- what the memory's rows hold at the start -/
def xpI (a j : Nat) : Int32 := if a = 11 then ([2, 3, 2, 2] : List Int32).getD j 0 else if a = 12 then (if j = 3 then 63 else 0) else if 20 ≤ a ∧ a < 218 then (if (a - 20) % 33 = 0 then (if j = 6 then (if a = 20 then 7 else 8) else if j = 9 then 1 else 0) else if ((a - 20) % 33 = 14 ∨ (a - 20) % 33 = 19 ∨ (a - 20) % 33 = 24 ∨ (a - 20) % 33 = 29) ∧ j = 3 then 3 else 0) else if 218 ≤ a ∧ a < 488 then (if (a - 218) % 6 = 1 ∧ j = 3 then 31 else 0) else if a = 492 then ([0, 0, 0, 0, 0, 0, 0, 2, 3, 2, 2] : List Int32).getD j 0 else if a = 494 then ([7, 8] : List Int32).getD j 0 else if a = 497 then ([1, 1] : List Int32).getD j 0 else 0
theorem W0_s : (prog (st0 (0, fun _ => 0))).isSome = true := by decide +kernel
theorem W0_I0 : ∀ x, x < 55 → ∀ j, j < 11 → wr (mK W0 (x + 55 * 0)) j = true → mI W0 (x + 55 * 0) j = xpI (x + 55 * 0) j := by decide +kernel
theorem W0_I1 : ∀ x, x < 55 → ∀ j, j < 11 → wr (mK W0 (x + 55 * 1)) j = true → mI W0 (x + 55 * 1) j = xpI (x + 55 * 1) j := by decide +kernel
theorem W0_I2 : ∀ x, x < 55 → ∀ j, j < 11 → wr (mK W0 (x + 55 * 2)) j = true → mI W0 (x + 55 * 2) j = xpI (x + 55 * 2) j := by decide +kernel
theorem W0_I3 : ∀ x, x < 55 → ∀ j, j < 11 → wr (mK W0 (x + 55 * 3)) j = true → mI W0 (x + 55 * 3) j = xpI (x + 55 * 3) j := by decide +kernel
theorem W0_I4 : ∀ x, x < 55 → ∀ j, j < 11 → wr (mK W0 (x + 55 * 4)) j = true → mI W0 (x + 55 * 4) j = xpI (x + 55 * 4) j := by decide +kernel
theorem W0_I5 : ∀ x, x < 55 → ∀ j, j < 11 → wr (mK W0 (x + 55 * 5)) j = true → mI W0 (x + 55 * 5) j = xpI (x + 55 * 5) j := by decide +kernel
theorem W0_I6 : ∀ x, x < 55 → ∀ j, j < 11 → wr (mK W0 (x + 55 * 6)) j = true → mI W0 (x + 55 * 6) j = xpI (x + 55 * 6) j := by decide +kernel
theorem W0_I7 : ∀ x, x < 55 → ∀ j, j < 11 → wr (mK W0 (x + 55 * 7)) j = true → mI W0 (x + 55 * 7) j = xpI (x + 55 * 7) j := by decide +kernel
theorem W0_I8 : ∀ x, x < 55 → ∀ j, j < 11 → wr (mK W0 (x + 55 * 8)) j = true → mI W0 (x + 55 * 8) j = xpI (x + 55 * 8) j := by decide +kernel
theorem W0_I9 : ∀ x, x < 55 → ∀ j, j < 11 → wr (mK W0 (x + 55 * 9)) j = true → mI W0 (x + 55 * 9) j = xpI (x + 55 * 9) j := by decide +kernel
theorem W0_I : ∀ a, a < 550 → ∀ j, j < 11 → wr (mK W0 a) j = true → mI W0 a j = xpI a j := fun a ha j hj hw => by
  obtain ⟨k, x, hk, hx, rfl⟩ : ∃ k x, k < 10 ∧ x < 55 ∧ a = x + 55 * k := ⟨a / 55, a % 55, by omega, by omega, by omega⟩
  rcases (by omega : k = 0 ∨ k = 1 ∨ k = 2 ∨ k = 3 ∨ k = 4 ∨ k = 5 ∨ k = 6 ∨ k = 7 ∨ k = 8 ∨ k = 9) with rfl | rfl | rfl | rfl | rfl | rfl | rfl | rfl | rfl | rfl
  · exact W0_I0 x hx j hj hw
  · exact W0_I1 x hx j hj hw
  · exact W0_I2 x hx j hj hw
  · exact W0_I3 x hx j hj hw
  · exact W0_I4 x hx j hj hw
  · exact W0_I5 x hx j hj hw
  · exact W0_I6 x hx j hj hw
  · exact W0_I7 x hx j hj hw
  · exact W0_I8 x hx j hj hw
  · exact W0_I9 x hx j hj hw
end
