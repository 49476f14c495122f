/-! THE WORLD: what the heap holds of an abstract memory -/
/-- the first own cell, the classes' numbers, the array classes, the old values -/
abbrev Wp : Type := Nat × va_G × (Nat → ClassId) × (Nat → Value)
abbrev wA0 (w : Wp) : Nat → Prop := fun q => w.1 ≤ q
def cv (w : Wp) : Value → Value
  | .ref k => .ref (w.1 + k)
  | .retAddr k => w.2.2.2 k
  | v => v
def rfb (b : Nat) (o : Option Nat) : Option Nat := o.map (fun a => b + a)
def slotV (w : Wp) (M : Mem) (ci k j : Nat) : Value := match cty ci j with
  | 4 => .long (mJ M k j)
  | 5 => va_rf (rfb w.1 (mR M k j))
  | _ => .int (mI M k j)
def ent (w : Wp) (M : Mem) (k : Nat) : va_E :=
  if 103 ≤ mK M k then .inl (w.2.2.1 (mK M k), mL M k, .inr (.inr (.inr (.inr (fun j => rfb w.1 (mR M k j)))))) else
  if 100 ≤ mK M k then .inl (w.2.2.1 (mK M k), mL M k, .inl (mI M k)) else
  .inr (mK M k - 1, (List.range (cN (mK M k - 1))).map (fun j => slotV w M (mK M k - 1) k j))
def wsM (w : Wp) (M : Mem) : va_W := (List.range (mn M)).map (fun k => (w.1 + k, ent w M k))
def tysW (w : Wp) : List (ClassId × FieldType) := [(w.2.2.1 100, .int), (w.2.2.1 101, .byte), (w.2.2.1 102, .boolean), (w.2.2.1 103, .object RX0), (w.2.2.1 104, .object RX2), (w.2.2.1 105, .object RX5)]
def Hp (w : Wp) (M : Mem) (H0 H : Heap) (locs : List Loc) : Prop := va_P w.2.1 classes (wsM w M) H ∧ va_D (wA0 w) (wsM w M) ∧ va_S (wA0 w) H0 H locs ∧ (∀ k, mK M k ≠ 0 → k < mn M) ∧ (∀ k j, mK M k = 101 → fits .byte (.int (mI M k j)) = true)
theorem wsM_get {w : Wp} {M : Mem} {k : Nat} (h : k < mn M) : (wsM w M)[k]? = some (w.1 + k, ent w M k) := by
  unfold wsM
  rw [List.getElem?_map, List.getElem?_range h]
  rfl
theorem wsM_len {w : Wp} {M : Mem} : (wsM w M).length = mn M := by unfold wsM; rw [List.length_map, List.length_range]
theorem wsM_set {w : Wp} {M M' : Mem} {k : Nat} {e : va_E} (hn : mn M' = mn M) (he : ent w M' k = e) (ho : ∀ j, j ≠ k → ent w M' j = ent w M j) : (wsM w M).set k (w.1 + k, e) = wsM w M' := by
  apply List.ext_getElem?
  intro i
  by_cases hi : i < mn M
  · rw [wsM_get (M := M') (by omega)]
    by_cases hk : i = k
    · subst hk
      rw [List.getElem?_set_self (by rw [wsM_len]; exact hi), he]
    · rw [List.getElem?_set_ne (Ne.symm hk), wsM_get hi, ho i hk]
  · rw [List.getElem?_eq_none (by rw [List.length_set, wsM_len]; omega), List.getElem?_eq_none (by rw [wsM_len]; omega)]
theorem wsM_push {w : Wp} {M M' : Mem} {e : va_E} (hn : mn M' = mn M + 1) (he : ent w M' (mn M) = e) (ho : ∀ j, j < mn M → ent w M' j = ent w M j) : wsM w M ++ [(w.1 + mn M, e)] = wsM w M' := by
  unfold wsM
  rw [hn, List.range_succ, List.map_append]
  congr 1
  · apply List.map_congr_left
    intro j hj
    rw [ho j (List.mem_range.mp hj)]
  · simp [he]
theorem ent_wI_ne {w : Wp} {M : Mem} {a j k : Nat} {x : Int32} (h : k ≠ a) : ent w (wI M a j x) k = ent w M k := by
  have h1 : ∀ b, mI (wI M a j x) k b = mI M k b := fun b => if_neg (fun z => h z.1)
  have h2 : mI (wI M a j x) k = mI M k := funext h1
  unfold ent slotV
  rw [h2]
  rfl
theorem ent_wJ_ne {w : Wp} {M : Mem} {a j k : Nat} {x : Int64} (h : k ≠ a) : ent w (wJ M a j x) k = ent w M k := by
  have h2 : mJ (wJ M a j x) k = mJ M k := funext fun b => if_neg (fun z => h z.1)
  unfold ent slotV
  rw [h2]
  rfl
theorem ent_wR_ne {w : Wp} {M : Mem} {a j k : Nat} {x : Option Nat} (h : k ≠ a) : ent w (wR M a j x) k = ent w M k := by
  have h2 : mR (wR M a j x) k = mR M k := funext fun b => if_neg (fun z => h z.1)
  unfold ent slotV
  rw [h2]
  rfl
theorem ent_wA_ne {w : Wp} {M : Mem} {a k : Nat} {g : Nat → Int32} (h : k ≠ a) : ent w (wA M a g) k = ent w M k := by
  have h2 : mI (wA M a g) k = mI M k := funext fun b => if_neg h
  unfold ent slotV
  rw [h2]
  rfl
theorem ent_nC_ne {w : Wp} {M : Mem} {kd len k : Nat} (h : k < mn M) : ent w (nC M kd len) k = ent w M k := by
  have hk : k ≠ M.2.2.2.2.2.1 := Nat.ne_of_lt h
  have h1 : mI (nC M kd len) k = mI M k := funext fun b => if_neg hk
  have h2 : mJ (nC M kd len) k = mJ M k := funext fun b => if_neg hk
  have h3 : mR (nC M kd len) k = mR M k := funext fun b => if_neg hk
  have h4 : mK (nC M kd len) k = mK M k := if_neg hk
  have h5 : mL (nC M kd len) k = mL M k := if_neg hk
  unfold ent slotV
  rw [h1, h2, h3, h4, h5]
/-- what was there before: the script, statics, the text constant, the nest's links -/
def Old (w : Wp) (X : Nat × (Nat → Int32)) (U : State) (H : Heap) : Prop :=
  (∃ b, w.2.2.2 0 = .ref b ∧ b < w.1 ∧ b < H.size ∧ va_X b X.1 X.2 U H) ∧
  (∃ t, w.2.2.2 1 = .ref t ∧ va_Z "java/lang/Integer" "DigitOnes" "[B" (.ref t) (wA0 w) U H ∧ va_T .byte t 100 (fun j => .int ((oldB 1).getD j 0)) (wA0 w) U H) ∧
  (∃ t, w.2.2.2 2 = .ref t ∧ va_Z "java/lang/Integer" "DigitTens" "[B" (.ref t) (wA0 w) U H ∧ va_T .byte t 100 (fun j => .int ((oldB 2).getD j 0)) (wA0 w) U H) ∧
  va_Z "java/lang/String" "COMPACT_STRINGS" "Z" (.int 1) (wA0 w) U H ∧
  (∃ v, w.2.2.2 5 = v ∧ (v = .null ∨ ∃ t, v = .ref t) ∧ va_Z "jdk/internal/util/Preconditions" "SIOOBE_FORMATTER" "Ljava/util/function/BiFunction;" v (wA0 w) U H) ∧
  (∃ k v, w.2.2.2 3 = .ref k ∧ w.2.2.2 4 = .ref v ∧ va_O "java/lang/String" k (wA0 w) U H ∧ va_OF "java/lang/String" "coder" "B" (.int 0) k (wA0 w) U H ∧ va_OF "java/lang/String" "value" "[B" (.ref v) k (wA0 w) U H ∧ va_T .byte v 7 (fun j => .int ((oldB 4).getD j 0)) (wA0 w) U H ∧ ∀ q ∈ ldcsS, vk_R (oN q.1) q.2 "mfkcsdr" k U) ∧
  (∀ x ∈ NEST, va_Nw x U) ∧ (va_AO RX0 U ∧ va_AO RX2 U ∧ va_AO RX5 U)
theorem va_X_at {b L : Nat} {xs : Nat → Int32} {U : State} {H H1 : Heap} (h : va_X b L xs U H) (hq : H1[b]? = H[b]?) : va_X b L xs U H1 := h.kept hq
theorem nest_warm {x : Cond} (hx : x ∈ NEST) {s U : State} (hW : s.WarmedH U.vm) (h : va_Nw x s) : va_Nw x U := by
  have h1 := (List.mem_filter.mp hx).2
  cases x <;> first | exact va_Nw.warmF hW h | exact va_Nw.warmM hW h | cases h1
theorem nest_on {x : Cond} (hx : x ∈ NEST) : x.onTables = true := by
  have h1 := (List.mem_filter.mp hx).2
  cases x <;> first | rfl | cases h1
/-- moved to a warmer state, over a heap in which the old cells are the same -/
theorem Old.warm {w : Wp} {X : Nat × (Nat → Int32)} {s U : State} {H H1 : Heap} (h : Old w X s H) (hW : s.WarmedH U.vm) (hz : H.size ≤ H1.size) (hq : ∀ a : Nat, a < H.size → ¬ wA0 w a → H1[a]? = H[a]?) : Old w X U H1 := by
  obtain ⟨⟨b, a1, a2, a3, a4⟩, ⟨t1, b1, b2, b3⟩, ⟨t2, c1, c2, c3⟩, d1, ⟨v, e1, e2, e3⟩, ⟨k, v2, f1, f2, f3, f4, f5, f6, f7⟩, g, i1, i2, i3⟩ := h
  have hv := hW.alike
  refine ⟨⟨b, a1, a2, Nat.lt_of_lt_of_le a3 hz, (a4.moved hv).kept (hq b a3 (Nat.not_le.mpr a2))⟩, ⟨t1, b1, (b2.moved hv).kept hq, (b3.moved hv).kept hq⟩, ⟨t2, c1, (c2.moved hv).kept hq, (c3.moved hv).kept hq⟩, (d1.moved hv).kept hq, ⟨v, e1, e2, (e3.moved hv).kept hq⟩, ⟨k, v2, f1, f2, (f3.moved hv).kept hq, (f4.moved hv).kept hq, (f5.moved hv).kept hq, (f6.moved hv).kept hq, fun q hm => (f7 q hm).warm hW⟩, fun x hx => nest_warm hx hW (g x hx), i1.moved hv, i2.moved hv, i3.moved hv⟩
theorem Old.same {w : Wp} {X : Nat × (Nat → Int32)} {s U : State} {H : Heap} (h : Old w X s H) (hv : U.vm = s.vm) : Old w X U H := by
  obtain ⟨⟨b, a1, a2, a3, a4⟩, ⟨t1, b1, b2, b3⟩, ⟨t2, c1, c2, c3⟩, d1, ⟨v, e1, e2, e3⟩, ⟨k, v2, f1, f2, f3, f4, f5, f6, f7⟩, g, i1, i2, i3⟩ := h
  have hA : s.vm.Alike U.vm := by rw [hv]; exact Vm.Alike.refl s.vm
  exact ⟨⟨b, a1, a2, a3, a4.moved hA⟩, ⟨t1, b1, b2.moved hA, b3.moved hA⟩, ⟨t2, c1, c2.moved hA, c3.moved hA⟩, d1.moved hA, ⟨v, e1, e2, e3.moved hA⟩, ⟨k, v2, f1, f2, f3.moved hA, f4.moved hA, f5.moved hA, f6.moved hA, fun q hm => (f7 q hm).same hv⟩, fun x hx => (g x hx).same (nest_on hx) hv.symm, i1.moved hA, i2.moved hA, i3.moved hA⟩
-- locals
def lvh (w : Wp) (ls : Array Slot) (nL : Nat) (L : List (Option Value)) : Prop := ls.size = nL ∧ lv_wf ls ∧ L.length = nL ∧ ∀ (i : Nat) (v : Value), lget L i = some v → ls[i]? = some (.val (cv w v))
def asc (w : Wp) (L : List (Option Value)) : List (Nat × Value) := (List.range L.length).filterMap (fun i => (lget L i).map (fun v => (i, cv w v)))
theorem lget_lt {L : List (Option Value)} {i : Nat} {v : Value} (h : lget L i = some v) : i < L.length := by
  unfold lget at h
  rcases Nat.lt_or_ge i L.length with q | q
  · exact q
  · rw [List.getElem?_eq_none q] at h; cases h
theorem asc_mem {w : Wp} {L : List (Option Value)} {i : Nat} {v : Value} (h : lget L i = some v) : (i, cv w v) ∈ asc w L := by
  refine List.mem_filterMap.mpr ⟨i, List.mem_range.mpr (lget_lt h), ?_⟩
  rw [h]; rfl
theorem lvh_has {w : Wp} {ls : Array Slot} {nL : Nat} {L : List (Option Value)} (h : lvh w ls nL L) : lv_has ls nL (asc w L) := by
  refine ⟨h.1, h.2.1, fun q hq => ?_⟩
  obtain ⟨i, -, hi⟩ := List.mem_filterMap.mp hq
  cases hv : lget L i with
  | none => rw [hv] at hi; cases hi
  | some v =>
    rw [hv] at hi
    cases hi
    exact h.2.2.2 i v hv
theorem lget_set {L : List (Option Value)} {i j : Nat} {o : Option Value} : lget (L.set i o) j = if j = i ∧ i < L.length then o else lget L j := by
  unfold lget
  by_cases h : i = j
  · subst h
    by_cases hl : i < L.length
    · rw [List.getElem?_set_self hl, if_pos ⟨rfl, hl⟩]; rfl
    · rw [if_neg (fun z => hl z.2), List.getElem?_eq_none (by rw [List.length_set]; omega), List.getElem?_eq_none (by omega)]
  · rw [List.getElem?_set_ne h, if_neg (fun z => h z.1.symm)]
theorem lclr_len {L : List (Option Value)} {i : Nat} : (lclr L i).length = L.length := by
  unfold lclr
  cases i with
  | zero => rfl
  | succ j =>
    dsimp only
    cases lget L j with
    | none => rfl
    | some v =>
      dsimp only
      split
      · rw [List.length_set]
      · rfl
theorem lclr_get {L : List (Option Value)} {i j : Nat} {v : Value} (h : lget (lclr L i) j = some v) : lget L j = some v ∧ ¬ (j + 1 = i ∧ v.category = 2) := by
  unfold lclr at h
  cases i with
  | zero => exact ⟨h, fun z => by omega⟩
  | succ k =>
    dsimp only at h
    cases hk : lget L k with
    | none =>
      rw [hk] at h
      refine ⟨h, fun z => ?_⟩
      obtain rfl : j = k := by omega
      rw [hk] at h; cases h
    | some u =>
      rw [hk] at h
      dsimp only at h
      split at h
      · rename_i hc
        rw [lget_set] at h
        split at h
        · cases h
        · rename_i hn
          refine ⟨h, fun z => hn ⟨by omega, lget_lt hk⟩⟩
      · rename_i hc
        refine ⟨h, fun z => ?_⟩
        obtain rfl : j = k := by omega
        rw [hk] at h; cases h
        exact hc z.2
theorem cv_cat {w : Wp} (ho : ∀ k, (w.2.2.2 k).category = 1) (v : Value) : (cv w v).category = v.category := by
  cases v <;> first | rfl | exact ho _
theorem lvh_set {w : Wp} (ho : ∀ k, (w.2.2.2 k).category = 1) {ls ls' : Array Slot} {nL : Nat} {L : List (Option Value)} {i : Nat} {v : Value} (h : lvh w ls nL L) (hi : i < nL) (h2 : lv_has ls' nL ((i, cv w v) :: (asc w L).filter (fun q => !(q.1 == i) && !(q.1 + 1 == i && q.2.category == 2)))) : lvh w ls' nL (lset L i v) := by
  refine ⟨h2.1, h2.2.1, by unfold lset; rw [List.length_set, lclr_len]; exact h.2.2.1, fun j u hj => ?_⟩
  unfold lset at hj
  rw [lget_set] at hj
  split at hj
  · rename_i hc
    cases hj
    rw [hc.1]
    exact h2.2.2 _ List.mem_cons_self
  · rename_i hc
    obtain ⟨h3, h4⟩ := lclr_get hj
    have hji : j ≠ i := fun z => hc ⟨z, by rw [lclr_len, h.2.2.1]; exact hi⟩
    refine h2.2.2 (j, cv w u) (List.mem_cons_of_mem _ (List.mem_filter.mpr ⟨asc_mem h3, ?_⟩))
    simp only [Bool.and_eq_true, Bool.not_eq_true', beq_eq_false_iff_ne, ne_eq, Bool.and_eq_false_iff]
    refine ⟨hji, ?_⟩
    by_cases hq : j + 1 = i
    · exact Or.inr (fun z => h4 ⟨hq, by rw [cv_cat ho] at z; exact z⟩)
    · exact Or.inl hq
theorem lvh_setL {w : Wp} (ho : ∀ k, (w.2.2.2 k).category = 1) {ls ls' : Array Slot} {nL : Nat} {L : List (Option Value)} {i : Nat} {v : Value} (h : lvh w ls nL L) (hi : i + 1 < nL) (h2 : lv_has ls' nL ((i, cv w v) :: (asc w L).filter (fun q => !(q.1 == i) && (!(q.1 == i + 1) && !(q.1 + 1 == i && q.2.category == 2))))) : lvh w ls' nL (lsetL L i v) := by
  refine ⟨h2.1, h2.2.1, by unfold lsetL; rw [List.length_set, List.length_set, lclr_len]; exact h.2.2.1, fun j u hj => ?_⟩
  unfold lsetL at hj
  rw [lget_set] at hj
  split at hj
  · cases hj
  · rename_i hc1
    rw [lget_set] at hj
    split at hj
    · rename_i hc
      cases hj
      rw [hc.1]
      exact h2.2.2 _ List.mem_cons_self
    · rename_i hc
      obtain ⟨h3, h4⟩ := lclr_get hj
      have hji : j ≠ i := fun z => hc ⟨z, by rw [lclr_len, h.2.2.1]; omega⟩
      have hji1 : j ≠ i + 1 := fun z => hc1 ⟨z, by rw [List.length_set, lclr_len, h.2.2.1]; exact hi⟩
      refine h2.2.2 (j, cv w u) (List.mem_cons_of_mem _ (List.mem_filter.mpr ⟨asc_mem h3, ?_⟩))
      simp only [Bool.and_eq_true, Bool.not_eq_true', beq_eq_false_iff_ne, ne_eq, Bool.and_eq_false_iff]
      refine ⟨hji, hji1, ?_⟩
      by_cases hq : j + 1 = i
      · exact Or.inr (fun z => h4 ⟨hq, by rw [cv_cat ho] at z; exact z⟩)
      · exact Or.inl hq
