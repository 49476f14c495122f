/-! THE MEMORY AS ROWS OF INTS OVER A FIXED SHAPE -/
abbrev Tl : Type := (Nat → Nat → Int64) × (Nat → Nat → Option Nat) × (Nat → Nat) × (Nat → Nat) × Nat × Nat × (Nat × (Nat → Int32))
abbrev Iw : Type := Nat → Nat → Int32
def tJ (T : Tl) : Nat → Nat → Int64 := T.1
def tR (T : Tl) : Nat → Nat → Option Nat := T.2.1
def tK (T : Tl) : Nat → Nat := T.2.2.1
def tL (T : Tl) : Nat → Nat := T.2.2.2.1
def tN (T : Tl) : Nat := T.2.2.2.2.1
def tS (T : Tl) : Nat := T.2.2.2.2.2.1
def tX (T : Tl) : Nat × (Nat → Int32) := T.2.2.2.2.2.2
theorem i_lits : (0 : Int32) = nI 0 ∧ (1 : Int32) = nI 1 ∧ (2 : Int32) = nI 2 ∧ (3 : Int32) = nI 3 ∧ (4 : Int32) = nI 4 ∧ (5 : Int32) = nI 5 ∧ (6 : Int32) = nI 6 ∧ (7 : Int32) = nI 7 ∧ (8 : Int32) = nI 8 ∧ (9 : Int32) = nI 9 ∧ (10 : Int32) = nI 10 ∧ (15 : Int32) = nI 15 ∧ (16 : Int32) = nI 16 ∧ (18 : Int32) = nI 18 ∧ (31 : Int32) = nI 31 ∧ (36 : Int32) = nI 36 ∧ (40 : Int32) = nI 40 ∧ (41 : Int32) = nI 41 ∧ (44 : Int32) = nI 44 ∧ (45 : Int32) = nI 45 ∧ (48 : Int32) = nI 48 ∧ (49 : Int32) = nI 49 ∧ (51 : Int32) = nI 51 ∧ (54 : Int32) = nI 54 ∧ (57 : Int32) = nI 57 ∧ (60 : Int32) = nI 60 ∧ (64 : Int32) = nI 64 ∧ (96 : Int32) = nI 96 ∧ (99 : Int32) = nI 99 ∧ (100 : Int32) = nI 100 ∧ (124 : Int32) = nI 124 ∧ (127 : Int32) = nI 127 ∧ (200 : Int32) = nI 200 ∧ (1000 : Int32) = nI 1000 ∧ (40000 : Int32) = nI 40000 ∧ (131071 : Int32) = nI 131071 := ⟨rfl, rfl, rfl, rfl, rfl, rfl, rfl, rfl, rfl, rfl, rfl, rfl, rfl, rfl, rfl, rfl, rfl, rfl, rfl, rfl, rfl, rfl, rfl, rfl, rfl, rfl, rfl, rfl, rfl, rfl, rfl, rfl, rfl, rfl, rfl, rfl⟩
def m1 : Int32 := -1
theorem i_neg1 : (-1 : Int32) = m1 := rfl
theorem m1_ne {k : Nat} (h : k < 2 ^ 31) : ¬ nI k = m1 := fun z => by
  have := nI_pos' h
  rw [z] at this
  exact absurd this (by decide)
theorem m1_en {k : Nat} (h : k < 2 ^ 31) : ¬ m1 = nI k := fun z => m1_ne h z.symm
theorem m1_lt {k : Nat} (h : k < 2 ^ 31) : m1 < nI k := Int32.lt_of_lt_of_le (by decide : m1 < 0) (nI_pos' h)
theorem m1_le {k : Nat} (h : k < 2 ^ 31) : m1 ≤ nI k := Int32.le_of_lt (m1_lt h)
theorem m1_nlt {k : Nat} (h : k < 2 ^ 31) : ¬ nI k < m1 := Int32.not_lt.mpr (m1_le h)
theorem m1_nle {k : Nat} (h : k < 2 ^ 31) : ¬ nI k ≤ m1 := Int32.not_le.mpr (m1_lt h)
theorem n_leT {a b : Nat} (h : a ≤ b) : (a ≤ b) = True := eq_true h
theorem n_leF {a b : Nat} (h : b < a) : (a ≤ b) = False := eq_false (Nat.not_le.mpr h)
theorem n_ltT {a b : Nat} (h : a < b) : (a < b) = True := eq_true h
theorem n_ltF {a b : Nat} (h : b ≤ a) : (a < b) = False := eq_false (Nat.not_lt.mpr h)
theorem n_eqT {a b : Nat} (h : a = b) : (a = b) = True := eq_true h
theorem n_eqF {a b : Nat} (h : a ≠ b) : (a = b) = False := eq_false h
theorem ite_true_x {α : Type} {a b : α} : (if True then a else b) = a := if_pos trivial
theorem ite_false_x {α : Type} {a b : α} : (if False then a else b) = b := if_neg id
section
variable {α : Type} {I : Iw} {T : Tl} {a b c j n m : Nat} {v : Int32}
theorem inR_n {n len : Nat} (h : n < len) (hn : n < 2 ^ 31) : inR (nI n) len = true := by
  unfold inR
  refine decide_eq_true (fun z => ?_)
  rcases z with z | z
  · exact nI_pos hn z
  · rw [nI_clamp hn] at z; omega
theorem gI_t {k : Int32 → Option α} (h : tK T a = c) : gI c j ((I, T) : Mem) a k = k (I a j) := if_pos h
theorem gR_t {k : Option Nat → Option α} (h : tK T a = c) : gR c j ((I, T) : Mem) a k = k (tR T a j) := if_pos h
theorem gA_t {k : Nat → Option α} (h : tK T a = c) : gA c j ((I, T) : Mem) a k = onR (tR T a j) none k := if_pos h
theorem gJ_t {k : Int64 → Option α} (h : tK T a = c) : gJ c j ((I, T) : Mem) a k = k (tJ T a j) := if_pos h
theorem pI_t {k : Mem → Option α} (h : tK T a = c) : pI c j ((I, T) : Mem) a v k = k ((u2 I a j v, T) : Mem) := if_pos h
theorem z_nar : ∀ m : Fin 2, vp_nar .boolean (nI m.val) = nI m.val ∧ fits .boolean (.int (nI m.val)) = true ∧ vp_nar .byte (nI m.val) = nI m.val := by decide
theorem pZ_t {k : Mem → Option α} (h : tK T a = c) (hm : m < 2) : pZ c j ((I, T) : Mem) a (nI m) k = k ((u2 I a j (nI m), T) : Mem) := if_pos ⟨h, (z_nar ⟨m, hm⟩).1, (z_nar ⟨m, hm⟩).2.1⟩
theorem ck_t {k : Option α} (h : tK T a = c) : ck ((I, T) : Mem) a c k = k := if_pos h
theorem aI_t {k : Int32 → Option α} (h : tK T a = 100) (hn : n < tL T a) (h31 : n < 2 ^ 31) : aI ((I, T) : Mem) a (nI n) k = k (I a n) := by
  refine (if_pos ⟨h, inR_n hn h31⟩).trans ?_
  rw [nI_clamp h31]
theorem sI_t {k : Mem → Option α} (h : tK T a = 100) (hn : n < tL T a) (h31 : n < 2 ^ 31) : sI ((I, T) : Mem) a (nI n) v k = k ((u2 I a n v, T) : Mem) := by
  refine (if_pos ⟨h, inR_n hn h31⟩).trans ?_
  rw [nI_clamp h31]
  rfl
theorem aB_t {k : Int32 → Option α} (h : tK T a = 101 ∨ tK T a = 102) (hn : n < tL T a) (h31 : n < 2 ^ 31) : aB ((I, T) : Mem) a (nI n) k = k (I a n) := by
  refine (if_pos ⟨h, inR_n hn h31⟩).trans ?_
  rw [nI_clamp h31]
theorem sB_t {k : Mem → Option α} (h : tK T a = 102) (hn : n < tL T a) (h31 : n < 2 ^ 31) (hm : m < 2) : sB ((I, T) : Mem) a (nI n) (nI m) k = k ((u2 I a n (nI m), T) : Mem) := by
  have h1 : ¬ mK ((I, T) : Mem) a = 101 := by
    have e : mK ((I, T) : Mem) a = tK T a := rfl
    omega
  refine (if_pos (inR_n hn h31)).trans ((if_neg h1).trans ((if_pos h).trans ?_))
  rw [nI_clamp h31, (z_nar ⟨m, hm⟩).1]
  rfl
theorem aA_t {k : Nat → Option α} (h : tK T a = 103 ∨ tK T a = 104 ∨ tK T a = 105) (hn : n < tL T a) (h31 : n < 2 ^ 31) : aA ((I, T) : Mem) a (nI n) k = onR (tR T a n) none k := by
  refine (if_pos ⟨h, inR_n hn h31⟩).trans ?_
  rw [nI_clamp h31]
  rfl
theorem aN_t {k : Int32 → Option α} (h : 100 ≤ tK T a) (h2 : tK T a < 106) : aN ((I, T) : Mem) a k = k (nI (tL T a)) := if_pos ⟨h, h2⟩
theorem cI_s {k : Int32 → Mem → Option α} {r : Int32} {M : Mem} : cI (some (r, M)) k = k r M := rfl
theorem cV_s {k : Mem → Option α} {M : Mem} : cV (some M) k = k M := rfl
theorem cR_s {k : Option Nat → Mem → Option α} {r : Option Nat} {M : Mem} : cR (some (r, M)) k = k r M := rfl
theorem onR_s {kn : Option α} {ks : Nat → Option α} : onR (some a) kn ks = ks a := rfl
theorem onR_n {kn : Option α} {ks : Nat → Option α} : onR none kn ks = kn := rfl
theorem nmI_t {k : Int32 → Option α} : nmI v k = k v := rfl
theorem rmI_t {k : Int32 → Option α} (h : 0 < b) (ha : a < 2 ^ 31) (hb : b < 2 ^ 31) : rmI (nI a) (nI b) k = k (nI (a % b)) := by
  refine (if_neg (nI_ne0 h hb)).trans ?_
  rw [pk_rem ha h hb]
theorem dvI_t {k : Int32 → Option α} (h : 0 < b) (ha : a < 2 ^ 31) (hb : b < 2 ^ 31) : dvI (nI a) (nI b) k = k (nI (a / b)) := by
  refine (if_neg (nI_ne0 h hb)).trans ?_
  rw [pk_div ha h hb]
theorem cpA_t {k : Mem → Option α} {s d x : Nat} (h : tK T a = 100 ∨ tK T a = 101) (hb : tK T b = tK T a) (h1 : s + x ≤ tL T a) (h2 : d + x ≤ tL T b) (hs : s < 2 ^ 31) (hd : d < 2 ^ 31) (hx : x < 2 ^ 31) : cpA ((I, T) : Mem) a (nI s) b (nI d) (nI x) k = k ((r2 I b (va_cpy (I a) (I b) s d x), T) : Mem) := by
  have e1 : (nI s).toNatClampNeg + (nI x).toNatClampNeg ≤ mL ((I, T) : Mem) a := by rw [nI_clamp hs, nI_clamp hx]; exact h1
  have e2 : (nI d).toNatClampNeg + (nI x).toNatClampNeg ≤ mL ((I, T) : Mem) b := by rw [nI_clamp hd, nI_clamp hx]; exact h2
  refine (if_pos ⟨h, hb, nI_pos hs, nI_pos hd, nI_pos hx, e1, e2⟩).trans ?_
  rw [nI_clamp hs, nI_clamp hd, nI_clamp hx]
  rfl
theorem u2_ne {f : Nat → Nat → α} {v : α} (h : a ≠ b) : u2 f b j v a = f a := funext fun _ => if_neg (fun z => h z.1)
theorem u2_at {f : Nat → Nat → α} {v : α} (h : a = b) (hj : j = n) : u2 f b n v a j = v := if_pos ⟨h, hj⟩
theorem u2_nj {f : Nat → Nat → α} {v : α} (h : a = b) (hj : j ≠ n) : u2 f b n v a j = f a j := if_neg (fun z => hj z.2)
theorem r2_ne {f : Nat → Nat → α} {g : Nat → α} (h : a ≠ b) : r2 f b g a = f a := funext fun _ => if_neg h
theorem r2_at {f : Nat → Nat → α} {g : Nat → α} (h : a = b) : r2 f b g a = g := funext fun _ => if_pos h
theorem u2_rw1 {f : Nat → Nat → α} {v : α} : u2 f b n v b = upw (f b) n v := funext fun x => by
  unfold u2 upw
  by_cases h : x = n
  · rw [if_pos ⟨rfl, h⟩, if_pos h]
  · rw [if_neg (fun z => h z.2), if_neg h]
end
theorem hA_of {T : Tl} {a b c j : Nat} (h : tK T a = c) (r : tR T a j = some b) : ∀ (α : Type) (I : Iw) (k : Nat → Option α), gA c j ((I, T) : Mem) a k = k b := fun α I k => by
  rw [gA_t h, r]
  rfl
/-- nothing outside of the stretch from p on, n long, has changed -/
def Frm (p n : Nat) (I I' : Iw) : Prop := ∀ a, (a < p ∨ p + n ≤ a) → I' a = I a
theorem Frm_rf {p n : Nat} {I : Iw} : Frm p n I I := fun _ _ => rfl
theorem Frm_tr {p n : Nat} {I I1 I2 : Iw} (h1 : Frm p n I I1) (h2 : Frm p n I1 I2) : Frm p n I I2 := fun a h => (h2 a h).trans (h1 a h)
theorem Frm_up {p n p' n' : Nat} {I I' : Iw} (h : Frm p' n' I I') (h1 : p ≤ p') (h2 : p' + n' ≤ p + n) : Frm p n I I' := fun a ha => h a (by omega)
theorem Frm_u2 {p n a j : Nat} {I I1 : Iw} {v : Int32} (h : Frm p n I I1) (h1 : p ≤ a) (h2 : a < p + n) : Frm p n I (u2 I1 a j v) := fun k hk => (u2_ne (by omega)).trans (h k hk)
theorem Frm_r2 {p n a : Nat} {I I1 : Iw} {g : Nat → Int32} (h : Frm p n I I1) (h1 : p ≤ a) (h2 : a < p + n) : Frm p n I (r2 I1 a g) := fun k hk => (r2_ne (by omega)).trans (h k hk)
theorem msk {len a : Nat} (hl : len = 4 ∨ len = 32 ∨ len = 64) (ha : a < 2 ^ 31) : nI a &&& nI (len - 1) = nI (a % len) := by
  rcases hl with rfl | rfl | rfl
  · exact pk_andN (by omega) 2 (by decide)
  · exact pk_andN (by omega) 5 (by decide)
  · exact pk_andN (by omega) 6 (by decide)
theorem msk3 {a : Nat} (ha : a < 2 ^ 31) : nI a &&& nI 3 = nI (a % 4) := pk_andN (by omega) 2 (by decide)
theorem msk15 {a : Nat} (ha : a < 2 ^ 31) : nI a &&& nI 15 = nI (a % 16) := pk_andN (by omega) 4 (by decide)
theorem msk31 {a : Nat} (ha : a < 2 ^ 31) : nI a &&& nI 31 = nI (a % 32) := pk_andN (by omega) 5 (by decide)
/-- a row that goes round -/
def RA (row : Nat → Int32) (m s : Nat) (l : List Int32) : Prop := ∀ j (h : j < l.length), row ((s + j) % m) = l[j]
theorem RA_nil {row : Nat → Int32} {m s : Nat} : RA row m s [] := fun j h => by simp at h
theorem RA_push {row row' : Nat → Int32} {m s : Nat} {l : List Int32} {v : Int32} (hm : m = 4 ∨ m = 32 ∨ m = 64) (h : RA row m s l) (hl : l.length < m) (h1 : row' ((s + l.length) % m) = v) (h2 : ∀ x, x ≠ (s + l.length) % m → row' x = row x) : RA row' m s (l ++ [v]) := fun j hj => by
  by_cases hz : j < l.length
  · rw [List.getElem_append_left hz, h2 _ (by rcases hm with rfl | rfl | rfl <;> omega)]
    exact h j hz
  · have hj' : j = l.length := by simp at hj; omega
    subst hj'
    rw [h1]
    simp
theorem RA_pop {row : Nat → Int32} {m s : Nat} {l : List Int32} {v : Int32} (hm : m = 4 ∨ m = 32 ∨ m = 64) (h : RA row m s (v :: l)) : RA row m ((s + 1) % m) l := fun j hj => by
  have := h (j + 1) (by simp; omega)
  simp only [List.getElem_cons_succ] at this
  rw [← this]
  congr 1
  rcases hm with rfl | rfl | rfl <;> omega
theorem RA_cg {row row' : Nat → Int32} {m s : Nat} {l : List Int32} (h : RA row m s l) (e : row' = row) : RA row' m s l := by rw [e]; exact h
