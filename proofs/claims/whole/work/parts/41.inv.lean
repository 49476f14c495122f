/-! THE PURE MACHINE: what always holds -/
theorem nbar_app : ∀ (a b : List Bt), nbar (a ++ b) = nbar a + nbar b
  | [], b => by simp [nbar]
  | none :: a, b => by simp only [List.cons_append, nbar, nbar_app a b]; omega
  | some l :: a, b => by simp only [List.cons_append, nbar, nbar_app a b]
theorem nrec_app : ∀ (a b : List Bt), nrec (a ++ b) = nrec a + nrec b
  | [], b => by simp [nrec]
  | none :: a, b => by simp only [List.cons_append, nrec, nrec_app a b]
  | some l :: a, b => by simp only [List.cons_append, nrec, nrec_app a b]; omega
theorem nbar_pos : ∀ {q : List Bt}, none ∈ q → 1 ≤ nbar q
  | [], h => by cases h
  | none :: q, h => by simp only [nbar]; omega
  | some l :: q, h => by
    simp only [nbar]
    exact nbar_pos (by simpa using h)
def okE (E : Env) : Prop := eN E ≤ 4 ∧ (∀ o, o ≤ eN E + 1 → 1 ≤ eP E o ∧ eP E o ≤ 3) ∧ eP E 0 = 1 ∧ eK E 0 = 7 ∧ eK E (eN E + 1) = 8 ∧ (∀ o, 1 ≤ o → o ≤ eN E → eK E o < 7) ∧ (∀ o, 1 ≤ o → o ≤ eN E → eK E o = 3 → (eA E o).toNatClampNeg ≤ 3) ∧ (1 ≤ eS E ∧ eS E ≤ 4) ∧ (1 ≤ eG E ∧ eG E ≤ 9) ∧ (2 ≤ eC E ∧ eC E ≤ 4) ∧ (1 ≤ eR E ∧ eR E ≤ 5) ∧ (eI E).length ≤ 60
def vC (E : Env) (o i j : Nat) : Prop := o ≤ eN E ∧ i < eP E o ∧ j < eP E (o + 1)
def vS (E : Env) (o i : Nat) : Prop := o ≤ eN E + 1 ∧ i < eP E o
def chOK (s c : Nat) (h : Ch) : Prop := h.1.length ≤ c ∧ h.2.1.length ≤ s ∧ ∀ l, some l ∈ h.1 → l ≠ [] ∧ l.length ≤ s
def b01 (b : Bool) : Nat := if b then 1 else 0
def snt (D : Dy) (s : Nat) : Nat := b01 (dD D s && !dH D s)
def BI (D : Dy) (o i j : Nat) : Prop := nbar (dC D (lin o i j)).1 + bit (dS D (spt (o + 1) j)) i + b01 (dD D (spt (o + 1) j)) = snt D (spt o i)
def InvC (E : Env) (D : Dy) : Prop := ∀ o i j, vC E o i j → chOK (eS E) (eC E) (dC D (lin o i j)) ∧ BI D o i j
def InvZ (E : Env) (D : Dy) : Prop := ∀ c, (∀ o i j, vC E o i j → c ≠ lin o i j) → (dC D c).1 = [] ∧ (dC D c).2.1 = []
def InvS (E : Env) (D : Dy) : Prop := ∀ o i, vS E o i → (dL D (spt o i)).length ≤ 3 ∧ (dH D (spt o i) = true → dD D (spt o i) = true) ∧ (1 ≤ o → dS D (spt o i) < 2 ^ eP E (o - 1) - 1)
def InvY (E : Env) (D : Dy) : Prop := ∀ s, (∀ o i, o ≤ eN E → i < eP E o → s ≠ spt o i) → dL D s = [] ∧ dH D s = false
def InvG (E : Env) (D : Dy) : Prop := dD D 0 = decide (eQ E ≠ 0) ∧ (dW D = sumN (eP E (eN E + 1)) fun j => b01 (dD D (spt (eN E + 1) j))) ∧ dO D ≤ (eI E).length ∧ (eQ E = 0 → ∀ s, dD D s = false)
def Inv (E : Env) (D : Dy) : Prop := InvC E D ∧ InvZ E D ∧ InvS E D ∧ InvY E D ∧ InvG E D
section
variable {E : Env} {D : Dy} {o i j f : Nat}
theorem okE.p1 (h : okE E) (ho : o ≤ eN E + 1) : 1 ≤ eP E o := (h.2.1 o ho).1
theorem okE.p3 (h : okE E) (ho : o ≤ eN E + 1) : eP E o ≤ 3 := (h.2.1 o ho).2
theorem vC.i3 (h : okE E) (v : vC E o i j) : i < 3 := Nat.lt_of_lt_of_le v.2.1 (h.p3 (by have := v.1; omega))
theorem vC.j3 (h : okE E) (v : vC E o i j) : j < 3 := Nat.lt_of_lt_of_le v.2.2 (h.p3 (by have := v.1; omega))
theorem vS.i3 (h : okE E) (v : vS E o i) : i < 3 := Nat.lt_of_lt_of_le v.2 (h.p3 v.1)
theorem vC.vs (v : vC E o i j) : vS E o i := ⟨by have := v.1; omega, v.2.1⟩
theorem vC.vt (v : vC E o i j) : vS E (o + 1) j := ⟨by have := v.1; omega, v.2.2⟩
theorem lin_inj {o i j o' i' j' : Nat} (h : lin o i j = lin o' i' j') (hi : i < 3) (hj : j < 3) (hi' : i' < 3) (hj' : j' < 3) : o = o' ∧ i = i' ∧ j = j' := by
  unfold lin at h; omega
theorem spt_inj {o i o' i' : Nat} (h : spt o i = spt o' i') (hi : i < 3) (hi' : i' < 3) : o = o' ∧ i = i' := by
  unfold spt at h; omega
theorem home_lt {p : Nat} {k : Fin 16} (h1 : 1 ≤ p) (h3 : p ≤ 3) : home p k < p := by
  unfold home
  have hk : k.val % 8 < 8 := Nat.mod_lt _ (by omega)
  rcases (by omega : p = 1 ∨ p = 2 ∨ p = 3) with rfl | rfl | rfl <;> omega
theorem goal_lt {k : Fin 16} (h : okE E) (ho : o ≤ eN E) : goal E D o i k < eP E (o + 1) := by
  have h1 := h.p1 (o := o + 1) (by omega)
  have h3 := h.p3 (o := o + 1) (by omega)
  unfold goal
  split
  · exact home_lt h1 h3
  · exact Nat.mod_lt _ (by omega)
end
-- channels
theorem clo1_ok {s c : Nat} {h : Ch} (hh : chOK s c h) (hr : h.1.length < c) (ho : h.2.1 ≠ []) : chOK s c (clo1 h) ∧ nbar (clo1 h).1 = nbar h.1 ∧ csz (clo1 h) = csz h := by
  obtain ⟨h1, h2, h3⟩ := hh
  refine ⟨⟨by simp [clo1]; omega, by simp [clo1], fun l hl => ?_⟩, by simp [clo1, nbar_app, nbar], by simp [clo1, csz, nrec_app, nrec]⟩
  simp only [clo1, List.mem_append, List.mem_singleton, Option.some.injEq] at hl
  rcases hl with hl | rfl
  · exact h3 l hl
  · exact ⟨ho, h2⟩
theorem putR1_ok {s c : Nat} {h : Ch} {r : Rec} (hh : chOK s c h) (hr : h.2.1.length < s) : chOK s c (putR1 h r) ∧ nbar (putR1 h r).1 = nbar h.1 ∧ csz (putR1 h r) = csz h + 1 := by
  obtain ⟨h1, h2, h3⟩ := hh
  exact ⟨⟨h1, by simp [putR1]; omega, h3⟩, rfl, by simp [putR1, csz]; omega⟩
theorem putR_ok {s c : Nat} {h : Ch} {r : Rec} (hs : 1 ≤ s) (hh : chOK s c h) (ht : tkR s c h = true) : chOK s c (putR s c h r) ∧ nbar (putR s c h r).1 = nbar h.1 ∧ csz (putR s c h r) = csz h + 1 := by
  have key : ∀ h1 : Ch, chOK s c h1 → h1.2.1.length < s → nbar h1.1 = nbar h.1 → csz h1 = csz h → chOK s c (if s ≤ (putR1 h1 r).2.1.length ∧ (putR1 h1 r).1.length < c then clo1 (putR1 h1 r) else putR1 h1 r) ∧ nbar (if s ≤ (putR1 h1 r).2.1.length ∧ (putR1 h1 r).1.length < c then clo1 (putR1 h1 r) else putR1 h1 r).1 = nbar h.1 ∧ csz (if s ≤ (putR1 h1 r).2.1.length ∧ (putR1 h1 r).1.length < c then clo1 (putR1 h1 r) else putR1 h1 r) = csz h + 1 := by
    intro h1 a1 a2 a3 a4
    obtain ⟨b1, b2, b3⟩ := putR1_ok (r := r) a1 a2
    split
    · rename_i hz
      obtain ⟨c1, c2, c3⟩ := clo1_ok b1 hz.2 (by simp [putR1])
      exact ⟨c1, by rw [c2, b2, a3], by rw [c3, b3, a4]⟩
    · exact ⟨b1, by rw [b2, a3], by rw [b3, a4]⟩
  unfold putR
  by_cases hz : s ≤ h.2.1.length
  · have hr : h.1.length < c := by
      simp only [tkR, Bool.or_eq_true, decide_eq_true_eq] at ht
      omega
    obtain ⟨c1, c2, c3⟩ := clo1_ok hh hr (by intro hn; rw [hn] at hz; simp at hz; omega)
    simp only [if_pos hz]
    exact key _ c1 (by simp [clo1]; omega) c2 c3
  · simp only [if_neg hz]
    exact key _ hh (by omega) rfl rfl
theorem putB_ok {s c : Nat} {h : Ch} (hh : chOK s c h) (ht : tkB c h = true) : chOK s c (putB h) ∧ nbar (putB h).1 = nbar h.1 + 1 ∧ csz (putB h) = csz h ∧ (putB h).2.1 = [] := by
  simp only [tkB, decide_eq_true_eq] at ht
  have key : ∀ h1 : Ch, chOK s c h1 → h1.1.length < c → nbar h1.1 = nbar h.1 → csz h1 = csz h → h1.2.1 = [] → chOK s c (h1.1 ++ [none], h1.2) ∧ nbar (h1.1 ++ [none]) = nbar h.1 + 1 ∧ csz (h1.1 ++ [none], h1.2) = csz h ∧ h1.2.1 = [] := by
    intro h1 a1 a2 a3 a4 a5
    refine ⟨⟨by simp; omega, a1.2.1, fun l hl => ?_⟩, by simp [nbar_app, nbar, a3], by rw [← a4]; simp [csz, nrec_app, nrec], a5⟩
    simp at hl
    exact a1.2.2 l hl
  unfold putB
  by_cases hz : h.2.1 = []
  · simp only [if_pos hz]
    rw [if_pos hz] at ht
    exact key h hh (by omega) rfl rfl hz
  · simp only [if_neg hz]
    rw [if_neg hz] at ht
    obtain ⟨c1, c2, c3⟩ := clo1_ok hh (by omega) hz
    exact key _ c1 (by simp [clo1]; omega) c2 c3 rfl
theorem grow_ok {s g c : Nat} {h : Ch} (hh : chOK s c h) : chOK s c (grow g c h) ∧ nbar (grow g c h).1 = nbar h.1 ∧ csz (grow g c h) = csz h := by
  unfold grow
  split
  · exact ⟨hh, rfl, rfl⟩
  · rename_i hz
    split
    · rename_i hy
      exact clo1_ok hh hy.2 hz
    · exact ⟨hh, rfl, rfl⟩
theorem popR_ok {s c : Nat} {h : Ch} {r : Rec} {l : List Rec} {q : List Bt} (hh : chOK s c h) (hq : h.1 = some (r :: l) :: q) : chOK s c (if l = [] then q else some l :: q, h.2) ∧ nbar (if l = [] then q else some l :: q) = nbar h.1 ∧ csz (if l = [] then q else some l :: q, h.2) + 1 = csz h := by
  obtain ⟨h1, h2, h3⟩ := hh
  rw [hq] at h1
  have hl := h3 (r :: l) (by rw [hq]; exact List.mem_cons_self)
  simp only [List.length_cons] at h1 hl
  by_cases hz : l = []
  · simp only [if_pos hz]
    refine ⟨⟨by simp; omega, h2, fun x hx => h3 x (by rw [hq]; exact List.mem_cons_of_mem _ hx)⟩, by rw [hq]; simp [nbar], by simp [csz, hq, nrec, hz]; omega⟩
  · simp only [if_neg hz]
    refine ⟨⟨by simp; omega, h2, fun x hx => ?_⟩, by rw [hq]; simp [nbar], by simp [csz, hq, nrec]; omega⟩
    simp only [List.mem_cons, Option.some.injEq] at hx
    rcases hx with rfl | hx
    · exact ⟨hz, by omega⟩
    · exact h3 x (by rw [hq]; exact List.mem_cons_of_mem _ hx)
theorem popB_ok {s c : Nat} {h : Ch} {q : List Bt} (hh : chOK s c h) (hq : h.1 = none :: q) : chOK s c (q, h.2) ∧ nbar q + 1 = nbar h.1 ∧ csz (q, h.2) = csz h := by
  obtain ⟨h1, h2, h3⟩ := hh
  rw [hq] at h1
  simp only [List.length_cons] at h1
  exact ⟨⟨by simp; omega, h2, fun x hx => h3 x (by rw [hq]; exact List.mem_cons_of_mem _ hx)⟩, by rw [hq]; simp [nbar], by simp [csz, hq, nrec]⟩
-- masks
theorem bit_lt {m f : Nat} : bit m f ≤ 1 := by unfold bit; omega
theorem mask_or : ∀ m : Fin 8, ∀ f : Fin 3, ∀ g : Fin 3, bit m.val f.val = 0 → (bit (m.val ||| 1 <<< f.val) g.val = if g = f then 1 else bit m.val g.val) ∧ (m.val ||| 1 <<< f.val) < 8 ∧ pop3 (m.val ||| 1 <<< f.val) = pop3 m.val + 1 := by decide
theorem mask_sub : ∀ p : Fin 4, ∀ m : Fin 8, ∀ f : Fin 3, m.val < 2 ^ p.val → f.val < p.val → (m.val ||| 1 <<< f.val) < 2 ^ p.val := by decide
theorem mask_full : ∀ p : Fin 4, ∀ f : Fin 3, f.val < p.val → bit (2 ^ p.val - 1) f.val = 1 := by decide
theorem mask_pop : ∀ p : Fin 4, ∀ m : Fin 8, m.val < 2 ^ p.val - 1 → pop3 m.val < p.val := by decide
theorem mask_gap : ∀ p : Fin 4, ∀ m : Fin 8, m.val < 2 ^ p.val - 1 → ∃ f : Fin 3, f.val < p.val ∧ bit m.val f.val = 0 := by decide
theorem mask_tb : ∀ m : Fin 8, ∀ f : Fin 3, (m.val).testBit f.val = decide (bit m.val f.val = 1) := by decide
theorem pop_full : ∀ p : Fin 4, pop3 (2 ^ p.val - 1) = p.val := by decide
