/-! ONE STEP of the interpreter is a step of the machine -/
def ilen : Instr → Nat
  | .bipush _ => 2
  | .ldc _ => 2
  | .iload _ => 2
  | .lload _ => 2
  | .aload _ => 2
  | .istore _ => 2
  | .lstore _ => 2
  | .astore _ => 2
  | .newarray _ => 2
  | .sipush _ => 3
  | .ldc_w _ => 3
  | .ldc2_w _ => 3
  | .iinc _ _ => 3
  | .ifCond _ _ => 3
  | .if_icmp _ _ => 3
  | .if_acmp _ _ => 3
  | .ifnull _ => 3
  | .ifnonnull _ => 3
  | .goto _ => 3
  | .getfield _ => 3
  | .putfield _ => 3
  | .getstatic _ => 3
  | .putstatic _ => 3
  | .new _ => 3
  | .anewarray _ => 3
  | .checkcast _ => 3
  | .instanceof _ => 3
  | .invokevirtual _ => 3
  | .invokespecial _ => 3
  | .invokestatic _ => 3
  | _ => 1
def isSw : Instr → Bool
  | .tableswitch .. => true
  | .lookupswitch .. => true
  | .invokeinterface .. => true
  | _ => false
theorem lay_in {C : String} {T : u_T} {N : Nat} {ps : List Nat} (h : (List.range N).all (fun k => hasW (ps.getD k 0) (u_lay C T k)) = true) : ∀ w ∈ u_ws C T N, w ∈ ALL := by
  intro w hw
  obtain ⟨k, hk, rfl⟩ := List.mem_map.mp hw
  exact hasW_mem (List.all_eq_true.mp h k hk)
theorem fty_in {T : u_T} {N : Nat} (h : (List.range N).all (fun k => (parseFieldDescriptor (T k).2.2.1).isSome) = true) : ∀ k, k < N → parseFieldDescriptor (T k).2.2.1 = some ((parseFieldDescriptor (T k).2.2.1).getD .int) := by
  intro k hk
  have h1 := List.all_eq_true.mp h k (List.mem_range.mpr hk)
  cases hp : parseFieldDescriptor (T k).2.2.1 with
  | none => rw [hp] at h1; cases h1
  | some t => rfl
def clsP (ci : Nat) (r : vw_C) : Prop := (∀ w ∈ u_ws r.1 r.2.1 r.2.2, w ∈ ALL) ∧ (∀ k, k < r.2.2 → parseFieldDescriptor (r.2.1 k).2.2.1 = some (ftyOf ci k)) ∧ (∀ a, a < r.2.2 → ∀ b, b < r.2.2 → a ≠ b → (r.2.1 a).2.1 ≠ (r.2.1 b).2.1) ∧ cN ci = r.2.2
theorem cls_0 : clsP 0 classes[0] := ⟨lay_in lay_X0, fty_in tc_X0, nmX0, rfl⟩
theorem cls_1 : clsP 1 classes[1] := ⟨lay_in lay_X1, fty_in tc_X1, nmX1, rfl⟩
theorem cls_2 : clsP 2 classes[2] := ⟨lay_in lay_X2, fty_in tc_X2, nmX2, rfl⟩
theorem cls_3 : clsP 3 classes[3] := ⟨lay_in lay_X3, fty_in tc_X3, nmX3, rfl⟩
theorem cls_4 : clsP 4 classes[4] := ⟨lay_in lay_X4, fty_in tc_X4, nmX4, rfl⟩
theorem cls_5 : clsP 5 classes[5] := ⟨lay_in lay_X5, fty_in tc_X5, nmX5, rfl⟩
theorem cls_6 : clsP 6 classes[6] := ⟨lay_in lay_X6, fty_in tc_X6, nmX6, rfl⟩
theorem cls_7 : clsP 7 classes[7] := ⟨lay_in lay_X7, fty_in tc_X7, nmX7, rfl⟩
theorem cls_8 : clsP 8 classes[8] := ⟨lay_in lay_X8, fty_in tc_X8, nmX8, rfl⟩
theorem cls_9 : clsP 9 classes[9] := ⟨lay_in lay_X9, fty_in tc_X9, nmX9, rfl⟩
theorem cls_10 : clsP 10 classes[10] := ⟨lay_in lay_X10, fty_in tc_X10, nmX10, rfl⟩
theorem cls_11 : clsP 11 classes[11] := ⟨lay_in lay_X11, fty_in tc_X11, nmX11, rfl⟩
theorem cls_12 : clsP 12 classes[12] := ⟨lay_in lay_X12, fty_in tc_X12, nmX12, rfl⟩
theorem cls_13 : clsP 13 classes[13] := ⟨lay_in lay_J4, fty_in tc_J4, nmJ4, rfl⟩
theorem cls_ok : ∀ (ci : Nat) (r : vw_C), classes[ci]? = some r → clsP ci r := by
  intro ci r h
  match ci, h with
  | 0, h => cases h; exact cls_0
  | 1, h => cases h; exact cls_1
  | 2, h => cases h; exact cls_2
  | 3, h => cases h; exact cls_3
  | 4, h => cases h; exact cls_4
  | 5, h => cases h; exact cls_5
  | 6, h => cases h; exact cls_6
  | 7, h => cases h; exact cls_7
  | 8, h => cases h; exact cls_8
  | 9, h => cases h; exact cls_9
  | 10, h => cases h; exact cls_10
  | 11, h => cases h; exact cls_11
  | 12, h => cases h; exact cls_12
  | 13, h => cases h; exact cls_13
  | k + 14, h => simp [classes] at h
def ctyOK (c : Nat) (t : FieldType) : Bool := match c, t with
  | 0, .int => true
  | 1, .boolean => true
  | 2, .byte => true
  | 4, .long => true
  | 5, .object _ => true
  | 5, .array _ => true
  | _, _ => false
theorem cty_all : (List.range 14).all (fun ci => (List.range (cN ci)).all (fun j => ctyOK (cty ci j) (ftyOf ci j))) = true := by decide +kernel
theorem cty_ok {ci j : Nat} {r : vw_C} (h : classes[ci]? = some r) (hj : j < r.2.2) : ctyOK (cty ci j) (ftyOf ci j) = true := by
  have hc := (cls_ok ci r h).2.2.2
  have hl : ci < 14 := (List.getElem?_eq_some_iff.mp h).1
  exact List.all_eq_true.mp (List.all_eq_true.mp cty_all ci (List.mem_range.mpr hl)) j (List.mem_range.mpr (by rw [hc]; exact hj))
theorem look_mem {α β : Type} [BEq α] [LawfulBEq α] : ∀ {l : List (α × β)} {a : α} {b : β}, l.lookup a = some b → (a, b) ∈ l
  | [], a, b, h => by cases h
  | (x, y) :: l, a, b, h => by
    rw [List.lookup_cons] at h
    split at h
    · rename_i hx
      cases h
      rw [eq_of_beq hx]
      exact List.mem_cons_self
    · exact List.mem_cons_of_mem _ (look_mem h)
def Ctx (w : Wp) (X : Nat × (Nat → Int32)) (q : MT) (p : Program) (s : State) (m : MethodId) (args : Array Value) (meth : Method) (c : Code) : Prop :=
  p.tables.exec = Jvm.exec ∧ c.code = q.2.1 ∧ meth.sig.returnType = q.2.2.2.1 ∧ c.maxLocals = q.2.2.1 ∧ s.vm.findClass (oN q.2.2.2.2.1) = some m.cls ∧ (∀ x ∈ ALL, x.before args s = true) ∧ meth.locks = false ∧ (q.1.name = "<init>" → meth.name = "<init>") ∧ va_K w.2.1 classes (tysW w) s ∧ Old w X s s.heap ∧ w.1 ≤ s.heap.size ∧ (∀ k, w.2.2.2 k = .null ∨ ∃ a, w.2.2.2 k = .ref a)
theorem ov_cat {w : Wp} (h : ∀ k, w.2.2.2 k = .null ∨ ∃ a, w.2.2.2 k = .ref a) (k : Nat) : (w.2.2.2 k).category = 1 := by
  rcases h k with h | ⟨a, h⟩ <;> rw [h] <;> rfl
theorem inR_in {j : Int32} {n : Nat} (h : inR j n = true) : vp_in j n := by
  unfold inR at h
  have h1 : ¬ (j < 0 ∨ n ≤ j.toNatClampNeg) := of_decide_eq_true h
  exact h1
theorem cv_rfv (w : Wp) (o : Option Nat) : cv w (rfv o) = va_rf (rfb w.1 o) := by cases o <;> rfl
theorem jmp_to {pc : Nat} {off : Int} (h : 0 ≤ (pc : Int) + off) : (pc : Int) + off = (jmp pc off : Int) := (Int.toNat_of_nonneg h).symm
theorem ent_obj {w : Wp} {M : Mem} {k ci : Nat} (h : mK M k = ci + 1) (hc : ci < 14) : ent w M k = .inr (ci, (List.range (cN ci)).map (fun j => slotV w M ci k j)) := by
  unfold ent
  rw [if_neg (by omega), if_neg (by omega), h, Nat.add_sub_cancel]
theorem ent_arrI {w : Wp} {M : Mem} {k kd : Nat} (h : mK M k = kd) (h1 : 100 ≤ kd) (h2 : kd < 103) : ent w M k = .inl (w.2.2.1 kd, mL M k, .inl (mI M k)) := by
  unfold ent
  rw [if_neg (by omega), if_pos (by omega), h]
theorem ent_arrR {w : Wp} {M : Mem} {k kd : Nat} (h : mK M k = kd) (h1 : 103 ≤ kd) : ent w M k = .inl (w.2.2.1 kd, mL M k, .inr (.inr (.inr (.inr (fun j => rfb w.1 (mR M k j)))))) := by
  unfold ent
  rw [if_pos (by omega), h]
theorem map_set {N j : Nat} {g g' : Nat → Value} {v : Value} (hj : j < N) (hv : g' j = v) (ho : ∀ i, i ≠ j → g' i = g i) : ((List.range N).map g).set j v = (List.range N).map g' := by
  apply List.ext_getElem?
  intro i
  by_cases hi : i < N
  · by_cases hij : i = j
    · subst hij
      rw [List.getElem?_set_self (by rw [List.length_map, List.length_range]; exact hi), List.getElem?_map, List.getElem?_range hi, ← hv]
      rfl
    · rw [List.getElem?_set_ne (Ne.symm hij), List.getElem?_map, List.getElem?_map, List.getElem?_range hi]
      exact congrArg some (ho i hij).symm
  · rw [List.getElem?_eq_none (by rw [List.length_set, List.length_map, List.length_range]; omega), List.getElem?_eq_none (by rw [List.length_map, List.length_range]; omega)]
theorem map_get {N j : Nat} {g : Nat → Value} (hj : j < N) : ((List.range N).map g)[j]? = some (g j) := by
  rw [List.getElem?_map, List.getElem?_range hj]
  rfl
theorem u2_row {f : Nat → Nat → Int32} {a j : Nat} {x : Int32} : u2 f a j x a = upd (f a) j x := by
  funext b
  unfold u2 upd
  by_cases h : b = j
  · rw [if_pos h, if_pos ⟨rfl, h⟩]
  · rw [if_neg h, if_neg (fun z => h z.2)]
theorem u2_rowR {b0 : Nat} {f : Nat → Nat → Option Nat} {a j b : Nat} : (fun i => rfb b0 (u2 f a j (some b) a i)) = va_up (fun i => rfb b0 (f a i)) j (some (b0 + b)) := by
  funext i
  unfold u2 va_up
  by_cases h : i = j
  · rw [if_pos h, if_pos ⟨rfl, h⟩]; rfl
  · rw [if_neg h, if_neg (fun z => h z.2)]
section STEP
variable {w : Wp} {X : Nat × (Nat → Int32)} {q : MT} {p : Program} {l : Launch} {e : Env} {R : Room} {s : State} {m : MethodId} {args : Array Value} {below : List Frame} {meth : Method} {c : Code} {H : Heap} {locs : List Loc} {Q : State → Prop} {M : Mem} {L : List (Option Value)} {ls : Array Slot} {pc nx n0 s0 : Nat} {f : Fr}
/-- what goes on behind the step -/
abbrev KK (w : Wp) (X : Nat × (Nat → Int32)) (q : MT) (p : Program) (l : Launch) (e : Env) (R : Room) (s : State) (m : MethodId) (args : Array Value) (below : List Frame) (meth : Method) (c : Code) (Q : State → Prop) (n0 s0 : Nat) (f : Fr) : Prop := ∀ (H' : Heap) (locs' : List Loc) (ls' : Array Slot), Hp w f.2.2.2 s.heap H' locs' → lvh w ls' q.2.2.1 f.2.1 → mX f.2.2.2 = X → W p l e R s m args below meth c H' locs' (mn f.2.2.2 - n0) (ms f.2.2.2 - s0) Q (F0 m f.1 ls' (f.2.2.1.map (cv w)))
abbrev GG (w : Wp) (p : Program) (l : Launch) (e : Env) (R : Room) (s : State) (m : MethodId) (args : Array Value) (below : List Frame) (meth : Method) (c : Code) (Q : State → Prop) (H : Heap) (locs : List Loc) (M : Mem) (n0 s0 pc : Nat) (ls : Array Slot) (st : List Value) : Prop := W p l e R s m args below meth c H locs (mn M - n0) (ms M - s0) Q (F0 m pc ls (st.map (cv w)))
abbrev DD (q : MT) (i : Instr) (pc nx : Nat) : Prop := ∃ len, decode q.2.1 pc = .ok (i, len) ∧ (isSw i = false → len = ilen i ∧ nx = pc + ilen i)
theorem s_iconst {st : List Value} {k : Int} (hd : DD q (.iconst k) pc nx) (h : step1 q.2.2.2.2.1 (decide (q.1.name = "<init>")) (.iconst k) pc nx L st M = some f) (C0 : Ctx w X q p s m args meth c) (hH : Hp w M s.heap H locs) (hl : lvh w ls q.2.2.1 L) (hX : mX M = X) (hn0 : n0 ≤ mn M) (hs0 : s0 ≤ ms M) (hc : mn f.2.2.2 - n0 ≤ R.cells) (hs : ms f.2.2.2 - s0 ≤ R.slots) (kk : KK w X q p l e R s m args below meth c Q n0 s0 f) : GG w p l e R s m args below meth c Q H locs M n0 s0 pc ls st := by
  obtain ⟨hx, hb, hrt, hml, hown, hts, hlk, hnm, hK, hO, hbs, hov0⟩ := C0
  have hov := ov_cat hov0
  obtain ⟨len, hd, hz⟩ := hd
  obtain ⟨rfl, rfl⟩ := hz rfl
  unfold step1 at h
  dsimp only at h
  cases h
  exact lv_iconst hx hb hd rfl (kk _ _ _ hH hl hX)

theorem s_bipush {st : List Value} {k : Int} (hd : DD q (.bipush k) pc nx) (h : step1 q.2.2.2.2.1 (decide (q.1.name = "<init>")) (.bipush k) pc nx L st M = some f) (C0 : Ctx w X q p s m args meth c) (hH : Hp w M s.heap H locs) (hl : lvh w ls q.2.2.1 L) (hX : mX M = X) (hn0 : n0 ≤ mn M) (hs0 : s0 ≤ ms M) (hc : mn f.2.2.2 - n0 ≤ R.cells) (hs : ms f.2.2.2 - s0 ≤ R.slots) (kk : KK w X q p l e R s m args below meth c Q n0 s0 f) : GG w p l e R s m args below meth c Q H locs M n0 s0 pc ls st := by
  obtain ⟨hx, hb, hrt, hml, hown, hts, hlk, hnm, hK, hO, hbs, hov0⟩ := C0
  have hov := ov_cat hov0
  obtain ⟨len, hd, hz⟩ := hd
  obtain ⟨rfl, rfl⟩ := hz rfl
  unfold step1 at h
  dsimp only at h
  cases h
  exact lv_bipush hx hb hd rfl (kk _ _ _ hH hl hX)

theorem s_sipush {st : List Value} {k : Int} (hd : DD q (.sipush k) pc nx) (h : step1 q.2.2.2.2.1 (decide (q.1.name = "<init>")) (.sipush k) pc nx L st M = some f) (C0 : Ctx w X q p s m args meth c) (hH : Hp w M s.heap H locs) (hl : lvh w ls q.2.2.1 L) (hX : mX M = X) (hn0 : n0 ≤ mn M) (hs0 : s0 ≤ ms M) (hc : mn f.2.2.2 - n0 ≤ R.cells) (hs : ms f.2.2.2 - s0 ≤ R.slots) (kk : KK w X q p l e R s m args below meth c Q n0 s0 f) : GG w p l e R s m args below meth c Q H locs M n0 s0 pc ls st := by
  obtain ⟨hx, hb, hrt, hml, hown, hts, hlk, hnm, hK, hO, hbs, hov0⟩ := C0
  have hov := ov_cat hov0
  obtain ⟨len, hd, hz⟩ := hd
  obtain ⟨rfl, rfl⟩ := hz rfl
  unfold step1 at h
  dsimp only at h
  cases h
  exact lv_sipush hx hb hd rfl (kk _ _ _ hH hl hX)

theorem s_lconst {st : List Value} {k : Fin 2} (hd : DD q (.lconst k) pc nx) (h : step1 q.2.2.2.2.1 (decide (q.1.name = "<init>")) (.lconst k) pc nx L st M = some f) (C0 : Ctx w X q p s m args meth c) (hH : Hp w M s.heap H locs) (hl : lvh w ls q.2.2.1 L) (hX : mX M = X) (hn0 : n0 ≤ mn M) (hs0 : s0 ≤ ms M) (hc : mn f.2.2.2 - n0 ≤ R.cells) (hs : ms f.2.2.2 - s0 ≤ R.slots) (kk : KK w X q p l e R s m args below meth c Q n0 s0 f) : GG w p l e R s m args below meth c Q H locs M n0 s0 pc ls st := by
  obtain ⟨hx, hb, hrt, hml, hown, hts, hlk, hnm, hK, hO, hbs, hov0⟩ := C0
  have hov := ov_cat hov0
  obtain ⟨len, hd, hz⟩ := hd
  obtain ⟨rfl, rfl⟩ := hz rfl
  unfold step1 at h
  dsimp only at h
  cases h
  exact lv_lconst hx hb hd rfl (kk _ _ _ hH hl hX)

theorem s_aconst_null {st : List Value}  (hd : DD q (.aconst_null) pc nx) (h : step1 q.2.2.2.2.1 (decide (q.1.name = "<init>")) (.aconst_null) pc nx L st M = some f) (C0 : Ctx w X q p s m args meth c) (hH : Hp w M s.heap H locs) (hl : lvh w ls q.2.2.1 L) (hX : mX M = X) (hn0 : n0 ≤ mn M) (hs0 : s0 ≤ ms M) (hc : mn f.2.2.2 - n0 ≤ R.cells) (hs : ms f.2.2.2 - s0 ≤ R.slots) (kk : KK w X q p l e R s m args below meth c Q n0 s0 f) : GG w p l e R s m args below meth c Q H locs M n0 s0 pc ls st := by
  obtain ⟨hx, hb, hrt, hml, hown, hts, hlk, hnm, hK, hO, hbs, hov0⟩ := C0
  have hov := ov_cat hov0
  obtain ⟨len, hd, hz⟩ := hd
  obtain ⟨rfl, rfl⟩ := hz rfl
  unfold step1 at h
  dsimp only at h
  cases h
  exact lv_null hx hb hd (kk _ _ _ hH hl hX)

theorem s_iload_n {st : List Value} {k : Fin 4} (hd : DD q (.iload_n k) pc nx) (h : step1 q.2.2.2.2.1 (decide (q.1.name = "<init>")) (.iload_n k) pc nx L st M = some f) (C0 : Ctx w X q p s m args meth c) (hH : Hp w M s.heap H locs) (hl : lvh w ls q.2.2.1 L) (hX : mX M = X) (hn0 : n0 ≤ mn M) (hs0 : s0 ≤ ms M) (hc : mn f.2.2.2 - n0 ≤ R.cells) (hs : ms f.2.2.2 - s0 ≤ R.slots) (kk : KK w X q p l e R s m args below meth c Q n0 s0 f) : GG w p l e R s m args below meth c Q H locs M n0 s0 pc ls st := by
  obtain ⟨hx, hb, hrt, hml, hown, hts, hlk, hnm, hK, hO, hbs, hov0⟩ := C0
  have hov := ov_cat hov0
  obtain ⟨len, hd, hz⟩ := hd
  obtain ⟨rfl, rfl⟩ := hz rfl
  unfold step1 at h
  dsimp only at h
  split at h
  · rename_i x hv
    cases h
    have hv := hl.2.2.2 _ _ hv
    exact lv_iload_n hx hb hd rfl hv (kk _ _ _ hH hl hX)
  · cases h

theorem s_iload {st : List Value} {k : Nat} (hd : DD q (.iload k) pc nx) (h : step1 q.2.2.2.2.1 (decide (q.1.name = "<init>")) (.iload k) pc nx L st M = some f) (C0 : Ctx w X q p s m args meth c) (hH : Hp w M s.heap H locs) (hl : lvh w ls q.2.2.1 L) (hX : mX M = X) (hn0 : n0 ≤ mn M) (hs0 : s0 ≤ ms M) (hc : mn f.2.2.2 - n0 ≤ R.cells) (hs : ms f.2.2.2 - s0 ≤ R.slots) (kk : KK w X q p l e R s m args below meth c Q n0 s0 f) : GG w p l e R s m args below meth c Q H locs M n0 s0 pc ls st := by
  obtain ⟨hx, hb, hrt, hml, hown, hts, hlk, hnm, hK, hO, hbs, hov0⟩ := C0
  have hov := ov_cat hov0
  obtain ⟨len, hd, hz⟩ := hd
  obtain ⟨rfl, rfl⟩ := hz rfl
  unfold step1 at h
  dsimp only at h
  split at h
  · rename_i x hv
    cases h
    have hv := hl.2.2.2 _ _ hv
    exact lv_iload hx hb hd hv (kk _ _ _ hH hl hX)
  · cases h

theorem s_lload_n {st : List Value} {k : Fin 4} (hd : DD q (.lload_n k) pc nx) (h : step1 q.2.2.2.2.1 (decide (q.1.name = "<init>")) (.lload_n k) pc nx L st M = some f) (C0 : Ctx w X q p s m args meth c) (hH : Hp w M s.heap H locs) (hl : lvh w ls q.2.2.1 L) (hX : mX M = X) (hn0 : n0 ≤ mn M) (hs0 : s0 ≤ ms M) (hc : mn f.2.2.2 - n0 ≤ R.cells) (hs : ms f.2.2.2 - s0 ≤ R.slots) (kk : KK w X q p l e R s m args below meth c Q n0 s0 f) : GG w p l e R s m args below meth c Q H locs M n0 s0 pc ls st := by
  obtain ⟨hx, hb, hrt, hml, hown, hts, hlk, hnm, hK, hO, hbs, hov0⟩ := C0
  have hov := ov_cat hov0
  obtain ⟨len, hd, hz⟩ := hd
  obtain ⟨rfl, rfl⟩ := hz rfl
  unfold step1 at h
  dsimp only at h
  split at h
  · rename_i x hv
    cases h
    have hv := hl.2.2.2 _ _ hv
    exact lv_lload_n hx hb hd rfl hv (kk _ _ _ hH hl hX)
  · cases h

theorem s_lload {st : List Value} {k : Nat} (hd : DD q (.lload k) pc nx) (h : step1 q.2.2.2.2.1 (decide (q.1.name = "<init>")) (.lload k) pc nx L st M = some f) (C0 : Ctx w X q p s m args meth c) (hH : Hp w M s.heap H locs) (hl : lvh w ls q.2.2.1 L) (hX : mX M = X) (hn0 : n0 ≤ mn M) (hs0 : s0 ≤ ms M) (hc : mn f.2.2.2 - n0 ≤ R.cells) (hs : ms f.2.2.2 - s0 ≤ R.slots) (kk : KK w X q p l e R s m args below meth c Q n0 s0 f) : GG w p l e R s m args below meth c Q H locs M n0 s0 pc ls st := by
  obtain ⟨hx, hb, hrt, hml, hown, hts, hlk, hnm, hK, hO, hbs, hov0⟩ := C0
  have hov := ov_cat hov0
  obtain ⟨len, hd, hz⟩ := hd
  obtain ⟨rfl, rfl⟩ := hz rfl
  unfold step1 at h
  dsimp only at h
  split at h
  · rename_i x hv
    cases h
    have hv := hl.2.2.2 _ _ hv
    exact lv_lload hx hb hd hv (kk _ _ _ hH hl hX)
  · cases h

theorem s_aload_n {st : List Value} {k : Fin 4} (hd : DD q (.aload_n k) pc nx) (h : step1 q.2.2.2.2.1 (decide (q.1.name = "<init>")) (.aload_n k) pc nx L st M = some f) (C0 : Ctx w X q p s m args meth c) (hH : Hp w M s.heap H locs) (hl : lvh w ls q.2.2.1 L) (hX : mX M = X) (hn0 : n0 ≤ mn M) (hs0 : s0 ≤ ms M) (hc : mn f.2.2.2 - n0 ≤ R.cells) (hs : ms f.2.2.2 - s0 ≤ R.slots) (kk : KK w X q p l e R s m args below meth c Q n0 s0 f) : GG w p l e R s m args below meth c Q H locs M n0 s0 pc ls st := by
  obtain ⟨hx, hb, hrt, hml, hown, hts, hlk, hnm, hK, hO, hbs, hov0⟩ := C0
  have hov := ov_cat hov0
  obtain ⟨len, hd, hz⟩ := hd
  obtain ⟨rfl, rfl⟩ := hz rfl
  unfold step1 at h
  dsimp only at h
  split at h
  · rename_i v hv
    have hv := hl.2.2.2 _ _ hv
    split at h
    · rename_i hvv
      cases h
      have kk := kk _ _ _ hH hl hX
      have hr : cv w v = .null ∨ ∃ a, cv w v = .ref a := by
        cases v with
        | ref a => exact Or.inr ⟨_, rfl⟩
        | null => exact Or.inl rfl
        | retAddr j => exact hov0 j
        | _ => cases hvv
      have kk : W p l e R s m args below meth c H locs (mn M - n0) (ms M - s0) Q (F0 m _ ls (cv w v :: st.map (cv w))) := kk
      rcases hr with hr | ⟨a, hr⟩
      · rw [hr] at hv kk
        exact lv_aload_nN hx hb hd rfl hv kk
      · rw [hr] at hv kk
        exact lv_aload_n hx hb hd rfl hv kk
    · cases h
  · cases h

theorem s_aload {st : List Value} {k : Nat} (hd : DD q (.aload k) pc nx) (h : step1 q.2.2.2.2.1 (decide (q.1.name = "<init>")) (.aload k) pc nx L st M = some f) (C0 : Ctx w X q p s m args meth c) (hH : Hp w M s.heap H locs) (hl : lvh w ls q.2.2.1 L) (hX : mX M = X) (hn0 : n0 ≤ mn M) (hs0 : s0 ≤ ms M) (hc : mn f.2.2.2 - n0 ≤ R.cells) (hs : ms f.2.2.2 - s0 ≤ R.slots) (kk : KK w X q p l e R s m args below meth c Q n0 s0 f) : GG w p l e R s m args below meth c Q H locs M n0 s0 pc ls st := by
  obtain ⟨hx, hb, hrt, hml, hown, hts, hlk, hnm, hK, hO, hbs, hov0⟩ := C0
  have hov := ov_cat hov0
  obtain ⟨len, hd, hz⟩ := hd
  obtain ⟨rfl, rfl⟩ := hz rfl
  unfold step1 at h
  dsimp only at h
  split at h
  · rename_i v hv
    have hv := hl.2.2.2 _ _ hv
    split at h
    · rename_i hvv
      cases h
      have kk := kk _ _ _ hH hl hX
      have hr : cv w v = .null ∨ ∃ a, cv w v = .ref a := by
        cases v with
        | ref a => exact Or.inr ⟨_, rfl⟩
        | null => exact Or.inl rfl
        | retAddr j => exact hov0 j
        | _ => cases hvv
      have kk : W p l e R s m args below meth c H locs (mn M - n0) (ms M - s0) Q (F0 m _ ls (cv w v :: st.map (cv w))) := kk
      rcases hr with hr | ⟨a, hr⟩
      · rw [hr] at hv kk
        exact lv_aloadN hx hb hd hv kk
      · rw [hr] at hv kk
        exact lv_aload hx hb hd hv kk
    · cases h
  · cases h

theorem s_istore_n {st : List Value} {k : Fin 4} (hd : DD q (.istore_n k) pc nx) (h : step1 q.2.2.2.2.1 (decide (q.1.name = "<init>")) (.istore_n k) pc nx L st M = some f) (C0 : Ctx w X q p s m args meth c) (hH : Hp w M s.heap H locs) (hl : lvh w ls q.2.2.1 L) (hX : mX M = X) (hn0 : n0 ≤ mn M) (hs0 : s0 ≤ ms M) (hc : mn f.2.2.2 - n0 ≤ R.cells) (hs : ms f.2.2.2 - s0 ≤ R.slots) (kk : KK w X q p l e R s m args below meth c Q n0 s0 f) : GG w p l e R s m args below meth c Q H locs M n0 s0 pc ls st := by
  obtain ⟨hx, hb, hrt, hml, hown, hts, hlk, hnm, hK, hO, hbs, hov0⟩ := C0
  have hov := ov_cat hov0
  obtain ⟨len, hd, hz⟩ := hd
  obtain ⟨rfl, rfl⟩ := hz rfl
  unfold step1 at h
  dsimp only at h
  split at h
  · rename_i x st
    split at h
    · rename_i hk
      cases h
      refine lv_istore_n hx hb hd rfl (lvh_has hl) (by rw [← hl.2.2.1]; exact hk) rfl (fun ls' h' => kk _ _ _ hH (lvh_set (v := .int x) hov hl (by rw [← hl.2.2.1]; exact hk) h') hX)
    · cases h
  · cases h

theorem s_istore {st : List Value} {k : Nat} (hd : DD q (.istore k) pc nx) (h : step1 q.2.2.2.2.1 (decide (q.1.name = "<init>")) (.istore k) pc nx L st M = some f) (C0 : Ctx w X q p s m args meth c) (hH : Hp w M s.heap H locs) (hl : lvh w ls q.2.2.1 L) (hX : mX M = X) (hn0 : n0 ≤ mn M) (hs0 : s0 ≤ ms M) (hc : mn f.2.2.2 - n0 ≤ R.cells) (hs : ms f.2.2.2 - s0 ≤ R.slots) (kk : KK w X q p l e R s m args below meth c Q n0 s0 f) : GG w p l e R s m args below meth c Q H locs M n0 s0 pc ls st := by
  obtain ⟨hx, hb, hrt, hml, hown, hts, hlk, hnm, hK, hO, hbs, hov0⟩ := C0
  have hov := ov_cat hov0
  obtain ⟨len, hd, hz⟩ := hd
  obtain ⟨rfl, rfl⟩ := hz rfl
  unfold step1 at h
  dsimp only at h
  split at h
  · rename_i x st
    split at h
    · rename_i hk
      cases h
      refine lv_istore hx hb hd (lvh_has hl) (by rw [← hl.2.2.1]; exact hk) rfl (fun ls' h' => kk _ _ _ hH (lvh_set (v := .int x) hov hl (by rw [← hl.2.2.1]; exact hk) h') hX)
    · cases h
  · cases h

theorem s_lstore_n {st : List Value} {k : Fin 4} (hd : DD q (.lstore_n k) pc nx) (h : step1 q.2.2.2.2.1 (decide (q.1.name = "<init>")) (.lstore_n k) pc nx L st M = some f) (C0 : Ctx w X q p s m args meth c) (hH : Hp w M s.heap H locs) (hl : lvh w ls q.2.2.1 L) (hX : mX M = X) (hn0 : n0 ≤ mn M) (hs0 : s0 ≤ ms M) (hc : mn f.2.2.2 - n0 ≤ R.cells) (hs : ms f.2.2.2 - s0 ≤ R.slots) (kk : KK w X q p l e R s m args below meth c Q n0 s0 f) : GG w p l e R s m args below meth c Q H locs M n0 s0 pc ls st := by
  obtain ⟨hx, hb, hrt, hml, hown, hts, hlk, hnm, hK, hO, hbs, hov0⟩ := C0
  have hov := ov_cat hov0
  obtain ⟨len, hd, hz⟩ := hd
  obtain ⟨rfl, rfl⟩ := hz rfl
  unfold step1 at h
  dsimp only at h
  split at h
  · rename_i x st
    split at h
    · rename_i hk
      cases h
      refine lv_lstore_n hx hb hd rfl (lvh_has hl) (by rw [← hl.2.2.1]; exact hk) rfl (fun ls' h' => kk _ _ _ hH (lvh_setL (v := .long x) hov hl (by rw [← hl.2.2.1]; exact hk) h') hX)
    · cases h
  · cases h

theorem s_lstore {st : List Value} {k : Nat} (hd : DD q (.lstore k) pc nx) (h : step1 q.2.2.2.2.1 (decide (q.1.name = "<init>")) (.lstore k) pc nx L st M = some f) (C0 : Ctx w X q p s m args meth c) (hH : Hp w M s.heap H locs) (hl : lvh w ls q.2.2.1 L) (hX : mX M = X) (hn0 : n0 ≤ mn M) (hs0 : s0 ≤ ms M) (hc : mn f.2.2.2 - n0 ≤ R.cells) (hs : ms f.2.2.2 - s0 ≤ R.slots) (kk : KK w X q p l e R s m args below meth c Q n0 s0 f) : GG w p l e R s m args below meth c Q H locs M n0 s0 pc ls st := by
  obtain ⟨hx, hb, hrt, hml, hown, hts, hlk, hnm, hK, hO, hbs, hov0⟩ := C0
  have hov := ov_cat hov0
  obtain ⟨len, hd, hz⟩ := hd
  obtain ⟨rfl, rfl⟩ := hz rfl
  unfold step1 at h
  dsimp only at h
  split at h
  · rename_i x st
    split at h
    · rename_i hk
      cases h
      refine lv_lstore hx hb hd (lvh_has hl) (by rw [← hl.2.2.1]; exact hk) rfl (fun ls' h' => kk _ _ _ hH (lvh_setL (v := .long x) hov hl (by rw [← hl.2.2.1]; exact hk) h') hX)
    · cases h
  · cases h

theorem s_astore_n {st : List Value} {k : Fin 4} (hd : DD q (.astore_n k) pc nx) (h : step1 q.2.2.2.2.1 (decide (q.1.name = "<init>")) (.astore_n k) pc nx L st M = some f) (C0 : Ctx w X q p s m args meth c) (hH : Hp w M s.heap H locs) (hl : lvh w ls q.2.2.1 L) (hX : mX M = X) (hn0 : n0 ≤ mn M) (hs0 : s0 ≤ ms M) (hc : mn f.2.2.2 - n0 ≤ R.cells) (hs : ms f.2.2.2 - s0 ≤ R.slots) (kk : KK w X q p l e R s m args below meth c Q n0 s0 f) : GG w p l e R s m args below meth c Q H locs M n0 s0 pc ls st := by
  obtain ⟨hx, hb, hrt, hml, hown, hts, hlk, hnm, hK, hO, hbs, hov0⟩ := C0
  have hov := ov_cat hov0
  obtain ⟨len, hd, hz⟩ := hd
  obtain ⟨rfl, rfl⟩ := hz rfl
  unfold step1 at h
  dsimp only at h
  split at h
  · rename_i v st
    split at h
    · rename_i hk
      rw [Bool.and_eq_true, decide_eq_true_eq] at hk
      obtain ⟨hv, hk⟩ := hk
      cases h
      have hkn := hk
      rw [hl.2.2.1] at hkn
      have kk := fun ls' h' => kk _ _ ls' hH (lvh_set (v := v) hov hl hkn h') hX
      have hr : cv w v = .null ∨ ∃ a, cv w v = .ref a := by
        cases v with
        | ref a => exact Or.inr ⟨_, rfl⟩
        | null => exact Or.inl rfl
        | retAddr j => exact hov0 j
        | _ => cases hv
      show W p l e R s m args below meth c H locs (mn M - n0) (ms M - s0) Q (F0 m _ ls (cv w v :: st.map (cv w)))
      rcases hr with hr | ⟨a, hr⟩
      · rw [hr] at kk ⊢
        exact lv_astore_nN hx hb hd rfl (lvh_has hl) hkn rfl (fun ls' h' => kk ls' h')
      · rw [hr] at kk ⊢
        exact lv_astore_n hx hb hd rfl (lvh_has hl) hkn rfl (fun ls' h' => kk ls' h')
    · cases h
  · cases h

theorem s_astore {st : List Value} {k : Nat} (hd : DD q (.astore k) pc nx) (h : step1 q.2.2.2.2.1 (decide (q.1.name = "<init>")) (.astore k) pc nx L st M = some f) (C0 : Ctx w X q p s m args meth c) (hH : Hp w M s.heap H locs) (hl : lvh w ls q.2.2.1 L) (hX : mX M = X) (hn0 : n0 ≤ mn M) (hs0 : s0 ≤ ms M) (hc : mn f.2.2.2 - n0 ≤ R.cells) (hs : ms f.2.2.2 - s0 ≤ R.slots) (kk : KK w X q p l e R s m args below meth c Q n0 s0 f) : GG w p l e R s m args below meth c Q H locs M n0 s0 pc ls st := by
  obtain ⟨hx, hb, hrt, hml, hown, hts, hlk, hnm, hK, hO, hbs, hov0⟩ := C0
  have hov := ov_cat hov0
  obtain ⟨len, hd, hz⟩ := hd
  obtain ⟨rfl, rfl⟩ := hz rfl
  unfold step1 at h
  dsimp only at h
  split at h
  · rename_i v st
    split at h
    · rename_i hk
      rw [Bool.and_eq_true, decide_eq_true_eq] at hk
      obtain ⟨hv, hk⟩ := hk
      cases h
      have hkn := hk
      rw [hl.2.2.1] at hkn
      have kk := fun ls' h' => kk _ _ ls' hH (lvh_set (v := v) hov hl hkn h') hX
      have hr : cv w v = .null ∨ ∃ a, cv w v = .ref a := by
        cases v with
        | ref a => exact Or.inr ⟨_, rfl⟩
        | null => exact Or.inl rfl
        | retAddr j => exact hov0 j
        | _ => cases hv
      show W p l e R s m args below meth c H locs (mn M - n0) (ms M - s0) Q (F0 m _ ls (cv w v :: st.map (cv w)))
      rcases hr with hr | ⟨a, hr⟩
      · rw [hr] at kk ⊢
        exact lv_astoreN hx hb hd (lvh_has hl) hkn rfl (fun ls' h' => kk ls' h')
      · rw [hr] at kk ⊢
        exact lv_astore hx hb hd (lvh_has hl) hkn rfl (fun ls' h' => kk ls' h')
    · cases h
  · cases h

theorem s_iinc {st : List Value} {k : Nat} {n : Int} (hd : DD q (.iinc k n) pc nx) (h : step1 q.2.2.2.2.1 (decide (q.1.name = "<init>")) (.iinc k n) pc nx L st M = some f) (C0 : Ctx w X q p s m args meth c) (hH : Hp w M s.heap H locs) (hl : lvh w ls q.2.2.1 L) (hX : mX M = X) (hn0 : n0 ≤ mn M) (hs0 : s0 ≤ ms M) (hc : mn f.2.2.2 - n0 ≤ R.cells) (hs : ms f.2.2.2 - s0 ≤ R.slots) (kk : KK w X q p l e R s m args below meth c Q n0 s0 f) : GG w p l e R s m args below meth c Q H locs M n0 s0 pc ls st := by
  obtain ⟨hx, hb, hrt, hml, hown, hts, hlk, hnm, hK, hO, hbs, hov0⟩ := C0
  have hov := ov_cat hov0
  obtain ⟨len, hd, hz⟩ := hd
  obtain ⟨rfl, rfl⟩ := hz rfl
  unfold step1 at h
  dsimp only at h
  split at h
  · rename_i x hv
    split at h
    · rename_i hk
      cases h
      obtain ⟨j, hj⟩ := List.getElem?_of_mem (asc_mem (w := w) hv)
      exact lv_iinc (x := x) hx hb hd (lvh_has hl) hj rfl (by rw [← hl.2.2.1]; exact hk.1) rfl (fun ls' h' => kk _ _ _ hH (lvh_set (v := .int (x + Int32.ofInt n)) hov hl (by rw [← hl.2.2.1]; exact hk.1) h') hX)
    · cases h
  · cases h

theorem s_iadd {st : List Value}  (hd : DD q (.iadd) pc nx) (h : step1 q.2.2.2.2.1 (decide (q.1.name = "<init>")) (.iadd) pc nx L st M = some f) (C0 : Ctx w X q p s m args meth c) (hH : Hp w M s.heap H locs) (hl : lvh w ls q.2.2.1 L) (hX : mX M = X) (hn0 : n0 ≤ mn M) (hs0 : s0 ≤ ms M) (hc : mn f.2.2.2 - n0 ≤ R.cells) (hs : ms f.2.2.2 - s0 ≤ R.slots) (kk : KK w X q p l e R s m args below meth c Q n0 s0 f) : GG w p l e R s m args below meth c Q H locs M n0 s0 pc ls st := by
  obtain ⟨hx, hb, hrt, hml, hown, hts, hlk, hnm, hK, hO, hbs, hov0⟩ := C0
  have hov := ov_cat hov0
  obtain ⟨len, hd, hz⟩ := hd
  obtain ⟨rfl, rfl⟩ := hz rfl
  unfold step1 at h
  dsimp only at h
  split at h
  · cases h
    exact lv_iadd hx hb hd (kk _ _ _ hH hl hX)
  · cases h

theorem s_isub {st : List Value}  (hd : DD q (.isub) pc nx) (h : step1 q.2.2.2.2.1 (decide (q.1.name = "<init>")) (.isub) pc nx L st M = some f) (C0 : Ctx w X q p s m args meth c) (hH : Hp w M s.heap H locs) (hl : lvh w ls q.2.2.1 L) (hX : mX M = X) (hn0 : n0 ≤ mn M) (hs0 : s0 ≤ ms M) (hc : mn f.2.2.2 - n0 ≤ R.cells) (hs : ms f.2.2.2 - s0 ≤ R.slots) (kk : KK w X q p l e R s m args below meth c Q n0 s0 f) : GG w p l e R s m args below meth c Q H locs M n0 s0 pc ls st := by
  obtain ⟨hx, hb, hrt, hml, hown, hts, hlk, hnm, hK, hO, hbs, hov0⟩ := C0
  have hov := ov_cat hov0
  obtain ⟨len, hd, hz⟩ := hd
  obtain ⟨rfl, rfl⟩ := hz rfl
  unfold step1 at h
  dsimp only at h
  split at h
  · cases h
    exact lv_isub hx hb hd (kk _ _ _ hH hl hX)
  · cases h

theorem s_imul {st : List Value}  (hd : DD q (.imul) pc nx) (h : step1 q.2.2.2.2.1 (decide (q.1.name = "<init>")) (.imul) pc nx L st M = some f) (C0 : Ctx w X q p s m args meth c) (hH : Hp w M s.heap H locs) (hl : lvh w ls q.2.2.1 L) (hX : mX M = X) (hn0 : n0 ≤ mn M) (hs0 : s0 ≤ ms M) (hc : mn f.2.2.2 - n0 ≤ R.cells) (hs : ms f.2.2.2 - s0 ≤ R.slots) (kk : KK w X q p l e R s m args below meth c Q n0 s0 f) : GG w p l e R s m args below meth c Q H locs M n0 s0 pc ls st := by
  obtain ⟨hx, hb, hrt, hml, hown, hts, hlk, hnm, hK, hO, hbs, hov0⟩ := C0
  have hov := ov_cat hov0
  obtain ⟨len, hd, hz⟩ := hd
  obtain ⟨rfl, rfl⟩ := hz rfl
  unfold step1 at h
  dsimp only at h
  split at h
  · cases h
    exact lv_imul hx hb hd (kk _ _ _ hH hl hX)
  · cases h

theorem s_ishl {st : List Value}  (hd : DD q (.ishl) pc nx) (h : step1 q.2.2.2.2.1 (decide (q.1.name = "<init>")) (.ishl) pc nx L st M = some f) (C0 : Ctx w X q p s m args meth c) (hH : Hp w M s.heap H locs) (hl : lvh w ls q.2.2.1 L) (hX : mX M = X) (hn0 : n0 ≤ mn M) (hs0 : s0 ≤ ms M) (hc : mn f.2.2.2 - n0 ≤ R.cells) (hs : ms f.2.2.2 - s0 ≤ R.slots) (kk : KK w X q p l e R s m args below meth c Q n0 s0 f) : GG w p l e R s m args below meth c Q H locs M n0 s0 pc ls st := by
  obtain ⟨hx, hb, hrt, hml, hown, hts, hlk, hnm, hK, hO, hbs, hov0⟩ := C0
  have hov := ov_cat hov0
  obtain ⟨len, hd, hz⟩ := hd
  obtain ⟨rfl, rfl⟩ := hz rfl
  unfold step1 at h
  dsimp only at h
  split at h
  · cases h
    exact lv_ishl hx hb hd (kk _ _ _ hH hl hX)
  · cases h

theorem s_ishr {st : List Value}  (hd : DD q (.ishr) pc nx) (h : step1 q.2.2.2.2.1 (decide (q.1.name = "<init>")) (.ishr) pc nx L st M = some f) (C0 : Ctx w X q p s m args meth c) (hH : Hp w M s.heap H locs) (hl : lvh w ls q.2.2.1 L) (hX : mX M = X) (hn0 : n0 ≤ mn M) (hs0 : s0 ≤ ms M) (hc : mn f.2.2.2 - n0 ≤ R.cells) (hs : ms f.2.2.2 - s0 ≤ R.slots) (kk : KK w X q p l e R s m args below meth c Q n0 s0 f) : GG w p l e R s m args below meth c Q H locs M n0 s0 pc ls st := by
  obtain ⟨hx, hb, hrt, hml, hown, hts, hlk, hnm, hK, hO, hbs, hov0⟩ := C0
  have hov := ov_cat hov0
  obtain ⟨len, hd, hz⟩ := hd
  obtain ⟨rfl, rfl⟩ := hz rfl
  unfold step1 at h
  dsimp only at h
  split at h
  · cases h
    exact lv_ishr hx hb hd (kk _ _ _ hH hl hX)
  · cases h

theorem s_iand {st : List Value}  (hd : DD q (.iand) pc nx) (h : step1 q.2.2.2.2.1 (decide (q.1.name = "<init>")) (.iand) pc nx L st M = some f) (C0 : Ctx w X q p s m args meth c) (hH : Hp w M s.heap H locs) (hl : lvh w ls q.2.2.1 L) (hX : mX M = X) (hn0 : n0 ≤ mn M) (hs0 : s0 ≤ ms M) (hc : mn f.2.2.2 - n0 ≤ R.cells) (hs : ms f.2.2.2 - s0 ≤ R.slots) (kk : KK w X q p l e R s m args below meth c Q n0 s0 f) : GG w p l e R s m args below meth c Q H locs M n0 s0 pc ls st := by
  obtain ⟨hx, hb, hrt, hml, hown, hts, hlk, hnm, hK, hO, hbs, hov0⟩ := C0
  have hov := ov_cat hov0
  obtain ⟨len, hd, hz⟩ := hd
  obtain ⟨rfl, rfl⟩ := hz rfl
  unfold step1 at h
  dsimp only at h
  split at h
  · cases h
    exact lv_iand hx hb hd (kk _ _ _ hH hl hX)
  · cases h

theorem s_ior {st : List Value}  (hd : DD q (.ior) pc nx) (h : step1 q.2.2.2.2.1 (decide (q.1.name = "<init>")) (.ior) pc nx L st M = some f) (C0 : Ctx w X q p s m args meth c) (hH : Hp w M s.heap H locs) (hl : lvh w ls q.2.2.1 L) (hX : mX M = X) (hn0 : n0 ≤ mn M) (hs0 : s0 ≤ ms M) (hc : mn f.2.2.2 - n0 ≤ R.cells) (hs : ms f.2.2.2 - s0 ≤ R.slots) (kk : KK w X q p l e R s m args below meth c Q n0 s0 f) : GG w p l e R s m args below meth c Q H locs M n0 s0 pc ls st := by
  obtain ⟨hx, hb, hrt, hml, hown, hts, hlk, hnm, hK, hO, hbs, hov0⟩ := C0
  have hov := ov_cat hov0
  obtain ⟨len, hd, hz⟩ := hd
  obtain ⟨rfl, rfl⟩ := hz rfl
  unfold step1 at h
  dsimp only at h
  split at h
  · cases h
    exact lv_ior hx hb hd (kk _ _ _ hH hl hX)
  · cases h

theorem s_ixor {st : List Value}  (hd : DD q (.ixor) pc nx) (h : step1 q.2.2.2.2.1 (decide (q.1.name = "<init>")) (.ixor) pc nx L st M = some f) (C0 : Ctx w X q p s m args meth c) (hH : Hp w M s.heap H locs) (hl : lvh w ls q.2.2.1 L) (hX : mX M = X) (hn0 : n0 ≤ mn M) (hs0 : s0 ≤ ms M) (hc : mn f.2.2.2 - n0 ≤ R.cells) (hs : ms f.2.2.2 - s0 ≤ R.slots) (kk : KK w X q p l e R s m args below meth c Q n0 s0 f) : GG w p l e R s m args below meth c Q H locs M n0 s0 pc ls st := by
  obtain ⟨hx, hb, hrt, hml, hown, hts, hlk, hnm, hK, hO, hbs, hov0⟩ := C0
  have hov := ov_cat hov0
  obtain ⟨len, hd, hz⟩ := hd
  obtain ⟨rfl, rfl⟩ := hz rfl
  unfold step1 at h
  dsimp only at h
  split at h
  · cases h
    exact lv_ixor hx hb hd (kk _ _ _ hH hl hX)
  · cases h

theorem s_ladd {st : List Value}  (hd : DD q (.ladd) pc nx) (h : step1 q.2.2.2.2.1 (decide (q.1.name = "<init>")) (.ladd) pc nx L st M = some f) (C0 : Ctx w X q p s m args meth c) (hH : Hp w M s.heap H locs) (hl : lvh w ls q.2.2.1 L) (hX : mX M = X) (hn0 : n0 ≤ mn M) (hs0 : s0 ≤ ms M) (hc : mn f.2.2.2 - n0 ≤ R.cells) (hs : ms f.2.2.2 - s0 ≤ R.slots) (kk : KK w X q p l e R s m args below meth c Q n0 s0 f) : GG w p l e R s m args below meth c Q H locs M n0 s0 pc ls st := by
  obtain ⟨hx, hb, hrt, hml, hown, hts, hlk, hnm, hK, hO, hbs, hov0⟩ := C0
  have hov := ov_cat hov0
  obtain ⟨len, hd, hz⟩ := hd
  obtain ⟨rfl, rfl⟩ := hz rfl
  unfold step1 at h
  dsimp only at h
  split at h
  · cases h
    exact lv_ladd hx hb hd (kk _ _ _ hH hl hX)
  · cases h

theorem s_lmul {st : List Value}  (hd : DD q (.lmul) pc nx) (h : step1 q.2.2.2.2.1 (decide (q.1.name = "<init>")) (.lmul) pc nx L st M = some f) (C0 : Ctx w X q p s m args meth c) (hH : Hp w M s.heap H locs) (hl : lvh w ls q.2.2.1 L) (hX : mX M = X) (hn0 : n0 ≤ mn M) (hs0 : s0 ≤ ms M) (hc : mn f.2.2.2 - n0 ≤ R.cells) (hs : ms f.2.2.2 - s0 ≤ R.slots) (kk : KK w X q p l e R s m args below meth c Q n0 s0 f) : GG w p l e R s m args below meth c Q H locs M n0 s0 pc ls st := by
  obtain ⟨hx, hb, hrt, hml, hown, hts, hlk, hnm, hK, hO, hbs, hov0⟩ := C0
  have hov := ov_cat hov0
  obtain ⟨len, hd, hz⟩ := hd
  obtain ⟨rfl, rfl⟩ := hz rfl
  unfold step1 at h
  dsimp only at h
  split at h
  · cases h
    exact lv_lmul hx hb hd (kk _ _ _ hH hl hX)
  · cases h

theorem s_idiv {st : List Value}  (hd : DD q (.idiv) pc nx) (h : step1 q.2.2.2.2.1 (decide (q.1.name = "<init>")) (.idiv) pc nx L st M = some f) (C0 : Ctx w X q p s m args meth c) (hH : Hp w M s.heap H locs) (hl : lvh w ls q.2.2.1 L) (hX : mX M = X) (hn0 : n0 ≤ mn M) (hs0 : s0 ≤ ms M) (hc : mn f.2.2.2 - n0 ≤ R.cells) (hs : ms f.2.2.2 - s0 ≤ R.slots) (kk : KK w X q p l e R s m args below meth c Q n0 s0 f) : GG w p l e R s m args below meth c Q H locs M n0 s0 pc ls st := by
  obtain ⟨hx, hb, hrt, hml, hown, hts, hlk, hnm, hK, hO, hbs, hov0⟩ := C0
  have hov := ov_cat hov0
  obtain ⟨len, hd, hz⟩ := hd
  obtain ⟨rfl, rfl⟩ := hz rfl
  unfold step1 at h
  dsimp only at h
  split at h
  · split at h
    · cases h
    · rename_i hy
      cases h
      exact lv_idiv hx hb hd hy (kk _ _ _ hH hl hX)
  · cases h

theorem s_irem {st : List Value}  (hd : DD q (.irem) pc nx) (h : step1 q.2.2.2.2.1 (decide (q.1.name = "<init>")) (.irem) pc nx L st M = some f) (C0 : Ctx w X q p s m args meth c) (hH : Hp w M s.heap H locs) (hl : lvh w ls q.2.2.1 L) (hX : mX M = X) (hn0 : n0 ≤ mn M) (hs0 : s0 ≤ ms M) (hc : mn f.2.2.2 - n0 ≤ R.cells) (hs : ms f.2.2.2 - s0 ≤ R.slots) (kk : KK w X q p l e R s m args below meth c Q n0 s0 f) : GG w p l e R s m args below meth c Q H locs M n0 s0 pc ls st := by
  obtain ⟨hx, hb, hrt, hml, hown, hts, hlk, hnm, hK, hO, hbs, hov0⟩ := C0
  have hov := ov_cat hov0
  obtain ⟨len, hd, hz⟩ := hd
  obtain ⟨rfl, rfl⟩ := hz rfl
  unfold step1 at h
  dsimp only at h
  split at h
  · split at h
    · cases h
    · rename_i hy
      cases h
      exact lv_irem hx hb hd hy (kk _ _ _ hH hl hX)
  · cases h

theorem s_ineg {st : List Value}  (hd : DD q (.ineg) pc nx) (h : step1 q.2.2.2.2.1 (decide (q.1.name = "<init>")) (.ineg) pc nx L st M = some f) (C0 : Ctx w X q p s m args meth c) (hH : Hp w M s.heap H locs) (hl : lvh w ls q.2.2.1 L) (hX : mX M = X) (hn0 : n0 ≤ mn M) (hs0 : s0 ≤ ms M) (hc : mn f.2.2.2 - n0 ≤ R.cells) (hs : ms f.2.2.2 - s0 ≤ R.slots) (kk : KK w X q p l e R s m args below meth c Q n0 s0 f) : GG w p l e R s m args below meth c Q H locs M n0 s0 pc ls st := by
  obtain ⟨hx, hb, hrt, hml, hown, hts, hlk, hnm, hK, hO, hbs, hov0⟩ := C0
  have hov := ov_cat hov0
  obtain ⟨len, hd, hz⟩ := hd
  obtain ⟨rfl, rfl⟩ := hz rfl
  unfold step1 at h
  dsimp only at h
  split at h
  · cases h
    exact lv_ineg hx hb hd (kk _ _ _ hH hl hX)
  · cases h

theorem s_iushr {st : List Value}  (hd : DD q (.iushr) pc nx) (h : step1 q.2.2.2.2.1 (decide (q.1.name = "<init>")) (.iushr) pc nx L st M = some f) (C0 : Ctx w X q p s m args meth c) (hH : Hp w M s.heap H locs) (hl : lvh w ls q.2.2.1 L) (hX : mX M = X) (hn0 : n0 ≤ mn M) (hs0 : s0 ≤ ms M) (hc : mn f.2.2.2 - n0 ≤ R.cells) (hs : ms f.2.2.2 - s0 ≤ R.slots) (kk : KK w X q p l e R s m args below meth c Q n0 s0 f) : GG w p l e R s m args below meth c Q H locs M n0 s0 pc ls st := by
  obtain ⟨hx, hb, hrt, hml, hown, hts, hlk, hnm, hK, hO, hbs, hov0⟩ := C0
  have hov := ov_cat hov0
  obtain ⟨len, hd, hz⟩ := hd
  obtain ⟨rfl, rfl⟩ := hz rfl
  unfold step1 at h
  dsimp only at h
  split at h
  · cases h
    exact lv_iushr hx hb hd rfl (kk _ _ _ hH hl hX)
  · cases h

theorem s_i2l {st : List Value}  (hd : DD q (.i2l) pc nx) (h : step1 q.2.2.2.2.1 (decide (q.1.name = "<init>")) (.i2l) pc nx L st M = some f) (C0 : Ctx w X q p s m args meth c) (hH : Hp w M s.heap H locs) (hl : lvh w ls q.2.2.1 L) (hX : mX M = X) (hn0 : n0 ≤ mn M) (hs0 : s0 ≤ ms M) (hc : mn f.2.2.2 - n0 ≤ R.cells) (hs : ms f.2.2.2 - s0 ≤ R.slots) (kk : KK w X q p l e R s m args below meth c Q n0 s0 f) : GG w p l e R s m args below meth c Q H locs M n0 s0 pc ls st := by
  obtain ⟨hx, hb, hrt, hml, hown, hts, hlk, hnm, hK, hO, hbs, hov0⟩ := C0
  have hov := ov_cat hov0
  obtain ⟨len, hd, hz⟩ := hd
  obtain ⟨rfl, rfl⟩ := hz rfl
  unfold step1 at h
  dsimp only at h
  split at h
  · cases h
    exact lv_i2l hx hb hd rfl (kk _ _ _ hH hl hX)
  · cases h

theorem s_l2i {st : List Value}  (hd : DD q (.l2i) pc nx) (h : step1 q.2.2.2.2.1 (decide (q.1.name = "<init>")) (.l2i) pc nx L st M = some f) (C0 : Ctx w X q p s m args meth c) (hH : Hp w M s.heap H locs) (hl : lvh w ls q.2.2.1 L) (hX : mX M = X) (hn0 : n0 ≤ mn M) (hs0 : s0 ≤ ms M) (hc : mn f.2.2.2 - n0 ≤ R.cells) (hs : ms f.2.2.2 - s0 ≤ R.slots) (kk : KK w X q p l e R s m args below meth c Q n0 s0 f) : GG w p l e R s m args below meth c Q H locs M n0 s0 pc ls st := by
  obtain ⟨hx, hb, hrt, hml, hown, hts, hlk, hnm, hK, hO, hbs, hov0⟩ := C0
  have hov := ov_cat hov0
  obtain ⟨len, hd, hz⟩ := hd
  obtain ⟨rfl, rfl⟩ := hz rfl
  unfold step1 at h
  dsimp only at h
  split at h
  · cases h
    exact lv_l2i hx hb hd rfl (kk _ _ _ hH hl hX)
  · cases h

theorem s_i2b {st : List Value}  (hd : DD q (.i2b) pc nx) (h : step1 q.2.2.2.2.1 (decide (q.1.name = "<init>")) (.i2b) pc nx L st M = some f) (C0 : Ctx w X q p s m args meth c) (hH : Hp w M s.heap H locs) (hl : lvh w ls q.2.2.1 L) (hX : mX M = X) (hn0 : n0 ≤ mn M) (hs0 : s0 ≤ ms M) (hc : mn f.2.2.2 - n0 ≤ R.cells) (hs : ms f.2.2.2 - s0 ≤ R.slots) (kk : KK w X q p l e R s m args below meth c Q n0 s0 f) : GG w p l e R s m args below meth c Q H locs M n0 s0 pc ls st := by
  obtain ⟨hx, hb, hrt, hml, hown, hts, hlk, hnm, hK, hO, hbs, hov0⟩ := C0
  have hov := ov_cat hov0
  obtain ⟨len, hd, hz⟩ := hd
  obtain ⟨rfl, rfl⟩ := hz rfl
  unfold step1 at h
  dsimp only at h
  split at h
  · cases h
    exact lv_i2b hx hb hd rfl (kk _ _ _ hH hl hX)
  · cases h

theorem s_i2c {st : List Value}  (hd : DD q (.i2c) pc nx) (h : step1 q.2.2.2.2.1 (decide (q.1.name = "<init>")) (.i2c) pc nx L st M = some f) (C0 : Ctx w X q p s m args meth c) (hH : Hp w M s.heap H locs) (hl : lvh w ls q.2.2.1 L) (hX : mX M = X) (hn0 : n0 ≤ mn M) (hs0 : s0 ≤ ms M) (hc : mn f.2.2.2 - n0 ≤ R.cells) (hs : ms f.2.2.2 - s0 ≤ R.slots) (kk : KK w X q p l e R s m args below meth c Q n0 s0 f) : GG w p l e R s m args below meth c Q H locs M n0 s0 pc ls st := by
  obtain ⟨hx, hb, hrt, hml, hown, hts, hlk, hnm, hK, hO, hbs, hov0⟩ := C0
  have hov := ov_cat hov0
  obtain ⟨len, hd, hz⟩ := hd
  obtain ⟨rfl, rfl⟩ := hz rfl
  unfold step1 at h
  dsimp only at h
  split at h
  · cases h
    exact lv_i2c hx hb hd rfl (kk _ _ _ hH hl hX)
  · cases h

theorem s_lcmp {st : List Value}  (hd : DD q (.lcmp) pc nx) (h : step1 q.2.2.2.2.1 (decide (q.1.name = "<init>")) (.lcmp) pc nx L st M = some f) (C0 : Ctx w X q p s m args meth c) (hH : Hp w M s.heap H locs) (hl : lvh w ls q.2.2.1 L) (hX : mX M = X) (hn0 : n0 ≤ mn M) (hs0 : s0 ≤ ms M) (hc : mn f.2.2.2 - n0 ≤ R.cells) (hs : ms f.2.2.2 - s0 ≤ R.slots) (kk : KK w X q p l e R s m args below meth c Q n0 s0 f) : GG w p l e R s m args below meth c Q H locs M n0 s0 pc ls st := by
  obtain ⟨hx, hb, hrt, hml, hown, hts, hlk, hnm, hK, hO, hbs, hov0⟩ := C0
  have hov := ov_cat hov0
  obtain ⟨len, hd, hz⟩ := hd
  obtain ⟨rfl, rfl⟩ := hz rfl
  unfold step1 at h
  dsimp only at h
  split at h
  · cases h
    exact W.lcmp hx hb hd (kk _ _ _ hH hl hX)
  · cases h

theorem s_dup {st : List Value}  (hd : DD q (.dup) pc nx) (h : step1 q.2.2.2.2.1 (decide (q.1.name = "<init>")) (.dup) pc nx L st M = some f) (C0 : Ctx w X q p s m args meth c) (hH : Hp w M s.heap H locs) (hl : lvh w ls q.2.2.1 L) (hX : mX M = X) (hn0 : n0 ≤ mn M) (hs0 : s0 ≤ ms M) (hc : mn f.2.2.2 - n0 ≤ R.cells) (hs : ms f.2.2.2 - s0 ≤ R.slots) (kk : KK w X q p l e R s m args below meth c Q n0 s0 f) : GG w p l e R s m args below meth c Q H locs M n0 s0 pc ls st := by
  obtain ⟨hx, hb, hrt, hml, hown, hts, hlk, hnm, hK, hO, hbs, hov0⟩ := C0
  have hov := ov_cat hov0
  obtain ⟨len, hd, hz⟩ := hd
  obtain ⟨rfl, rfl⟩ := hz rfl
  unfold step1 at h
  dsimp only at h
  split at h
  · split at h
    · rename_i hk
      cases h
      exact lv_dup hx hb hd (by rw [cv_cat hov]; exact hk) (kk _ _ _ hH hl hX)
    · cases h
  · cases h

theorem s_pop {st : List Value}  (hd : DD q (.pop) pc nx) (h : step1 q.2.2.2.2.1 (decide (q.1.name = "<init>")) (.pop) pc nx L st M = some f) (C0 : Ctx w X q p s m args meth c) (hH : Hp w M s.heap H locs) (hl : lvh w ls q.2.2.1 L) (hX : mX M = X) (hn0 : n0 ≤ mn M) (hs0 : s0 ≤ ms M) (hc : mn f.2.2.2 - n0 ≤ R.cells) (hs : ms f.2.2.2 - s0 ≤ R.slots) (kk : KK w X q p l e R s m args below meth c Q n0 s0 f) : GG w p l e R s m args below meth c Q H locs M n0 s0 pc ls st := by
  obtain ⟨hx, hb, hrt, hml, hown, hts, hlk, hnm, hK, hO, hbs, hov0⟩ := C0
  have hov := ov_cat hov0
  obtain ⟨len, hd, hz⟩ := hd
  obtain ⟨rfl, rfl⟩ := hz rfl
  unfold step1 at h
  dsimp only at h
  split at h
  · split at h
    · rename_i hk
      cases h
      exact lv_pop hx hb hd (by rw [cv_cat hov]; exact hk) (kk _ _ _ hH hl hX)
    · cases h
  · cases h

theorem s_dup_x1 {st : List Value}  (hd : DD q (.dup_x1) pc nx) (h : step1 q.2.2.2.2.1 (decide (q.1.name = "<init>")) (.dup_x1) pc nx L st M = some f) (C0 : Ctx w X q p s m args meth c) (hH : Hp w M s.heap H locs) (hl : lvh w ls q.2.2.1 L) (hX : mX M = X) (hn0 : n0 ≤ mn M) (hs0 : s0 ≤ ms M) (hc : mn f.2.2.2 - n0 ≤ R.cells) (hs : ms f.2.2.2 - s0 ≤ R.slots) (kk : KK w X q p l e R s m args below meth c Q n0 s0 f) : GG w p l e R s m args below meth c Q H locs M n0 s0 pc ls st := by
  obtain ⟨hx, hb, hrt, hml, hown, hts, hlk, hnm, hK, hO, hbs, hov0⟩ := C0
  have hov := ov_cat hov0
  obtain ⟨len, hd, hz⟩ := hd
  obtain ⟨rfl, rfl⟩ := hz rfl
  unfold step1 at h
  dsimp only at h
  split at h
  · split at h
    · rename_i hk
      cases h
      exact lv_dup_x1 hx hb hd (by rw [cv_cat hov]; exact hk.1) (by rw [cv_cat hov]; exact hk.2) (kk _ _ _ hH hl hX)
    · cases h
  · cases h

theorem s_dup2 {st : List Value}  (hd : DD q (.dup2) pc nx) (h : step1 q.2.2.2.2.1 (decide (q.1.name = "<init>")) (.dup2) pc nx L st M = some f) (C0 : Ctx w X q p s m args meth c) (hH : Hp w M s.heap H locs) (hl : lvh w ls q.2.2.1 L) (hX : mX M = X) (hn0 : n0 ≤ mn M) (hs0 : s0 ≤ ms M) (hc : mn f.2.2.2 - n0 ≤ R.cells) (hs : ms f.2.2.2 - s0 ≤ R.slots) (kk : KK w X q p l e R s m args below meth c Q n0 s0 f) : GG w p l e R s m args below meth c Q H locs M n0 s0 pc ls st := by
  obtain ⟨hx, hb, hrt, hml, hown, hts, hlk, hnm, hK, hO, hbs, hov0⟩ := C0
  have hov := ov_cat hov0
  obtain ⟨len, hd, hz⟩ := hd
  obtain ⟨rfl, rfl⟩ := hz rfl
  unfold step1 at h
  dsimp only at h
  split at h
  · split at h
    · rename_i hk
      cases h
      exact lv_dup2_11 hx hb hd (by rw [cv_cat hov]; exact hk.1) (by rw [cv_cat hov]; exact hk.2) (kk _ _ _ hH hl hX)
    · cases h
  · cases h

theorem s_goto {st : List Value} {off : Int} (hd : DD q (.goto off) pc nx) (h : step1 q.2.2.2.2.1 (decide (q.1.name = "<init>")) (.goto off) pc nx L st M = some f) (C0 : Ctx w X q p s m args meth c) (hH : Hp w M s.heap H locs) (hl : lvh w ls q.2.2.1 L) (hX : mX M = X) (hn0 : n0 ≤ mn M) (hs0 : s0 ≤ ms M) (hc : mn f.2.2.2 - n0 ≤ R.cells) (hs : ms f.2.2.2 - s0 ≤ R.slots) (kk : KK w X q p l e R s m args below meth c Q n0 s0 f) : GG w p l e R s m args below meth c Q H locs M n0 s0 pc ls st := by
  obtain ⟨hx, hb, hrt, hml, hown, hts, hlk, hnm, hK, hO, hbs, hov0⟩ := C0
  have hov := ov_cat hov0
  obtain ⟨len, hd, hz⟩ := hd
  obtain ⟨rfl, rfl⟩ := hz rfl
  unfold step1 at h
  dsimp only at h
  split at h
  · rename_i ho
    cases h
    exact lv_goto hx hb hd (jmp_to ho) (kk _ _ _ hH hl hX)
  · cases h

theorem s_ifCond {st : List Value} {cd : ClassFile.Cond} {off : Int} (hd : DD q (.ifCond cd off) pc nx) (h : step1 q.2.2.2.2.1 (decide (q.1.name = "<init>")) (.ifCond cd off) pc nx L st M = some f) (C0 : Ctx w X q p s m args meth c) (hH : Hp w M s.heap H locs) (hl : lvh w ls q.2.2.1 L) (hX : mX M = X) (hn0 : n0 ≤ mn M) (hs0 : s0 ≤ ms M) (hc : mn f.2.2.2 - n0 ≤ R.cells) (hs : ms f.2.2.2 - s0 ≤ R.slots) (kk : KK w X q p l e R s m args below meth c Q n0 s0 f) : GG w p l e R s m args below meth c Q H locs M n0 s0 pc ls st := by
  obtain ⟨hx, hb, hrt, hml, hown, hts, hlk, hnm, hK, hO, hbs, hov0⟩ := C0
  have hov := ov_cat hov0
  obtain ⟨len, hd, hz⟩ := hd
  obtain ⟨rfl, rfl⟩ := hz rfl
  unfold step1 at h
  dsimp only at h
  split at h
  · split at h
    · rename_i ho
      split at h
      · rename_i hc1
        cases h
        cases cd <;> (simp only [cndOf, decide_eq_true_eq] at hc1) <;>
          first | exact lv_if_eq hx hb hd (jmp_to ho) (fun _ => kk _ _ _ hH hl hX) (fun z => by first | exact (z hc1).elim | exact (hc1 z).elim) | exact lv_if_ne hx hb hd (jmp_to ho) (fun _ => kk _ _ _ hH hl hX) (fun z => by first | exact (z hc1).elim | exact (hc1 z).elim) | exact lv_if_lt hx hb hd (jmp_to ho) (fun _ => kk _ _ _ hH hl hX) (fun z => by first | exact (z hc1).elim | exact (hc1 z).elim) | exact lv_if_ge hx hb hd (jmp_to ho) (fun _ => kk _ _ _ hH hl hX) (fun z => by first | exact (z hc1).elim | exact (hc1 z).elim) | exact lv_if_gt hx hb hd (jmp_to ho) (fun _ => kk _ _ _ hH hl hX) (fun z => by first | exact (z hc1).elim | exact (hc1 z).elim) | exact lv_if_le hx hb hd (jmp_to ho) (fun _ => kk _ _ _ hH hl hX) (fun z => by first | exact (z hc1).elim | exact (hc1 z).elim)
      · rename_i hc1
        cases h
        cases cd <;> (simp only [cndOf, decide_eq_true_eq] at hc1) <;>
          first | exact lv_if_eq hx hb hd (jmp_to ho) (fun z => by first | exact (z hc1).elim | exact (hc1 z).elim) (fun _ => kk _ _ _ hH hl hX) | exact lv_if_ne hx hb hd (jmp_to ho) (fun z => by first | exact (z hc1).elim | exact (hc1 z).elim) (fun _ => kk _ _ _ hH hl hX) | exact lv_if_lt hx hb hd (jmp_to ho) (fun z => by first | exact (z hc1).elim | exact (hc1 z).elim) (fun _ => kk _ _ _ hH hl hX) | exact lv_if_ge hx hb hd (jmp_to ho) (fun z => by first | exact (z hc1).elim | exact (hc1 z).elim) (fun _ => kk _ _ _ hH hl hX) | exact lv_if_gt hx hb hd (jmp_to ho) (fun z => by first | exact (z hc1).elim | exact (hc1 z).elim) (fun _ => kk _ _ _ hH hl hX) | exact lv_if_le hx hb hd (jmp_to ho) (fun z => by first | exact (z hc1).elim | exact (hc1 z).elim) (fun _ => kk _ _ _ hH hl hX)
    · cases h
  · cases h

theorem s_if_icmp {st : List Value} {cd : ClassFile.Cond} {off : Int} (hd : DD q (.if_icmp cd off) pc nx) (h : step1 q.2.2.2.2.1 (decide (q.1.name = "<init>")) (.if_icmp cd off) pc nx L st M = some f) (C0 : Ctx w X q p s m args meth c) (hH : Hp w M s.heap H locs) (hl : lvh w ls q.2.2.1 L) (hX : mX M = X) (hn0 : n0 ≤ mn M) (hs0 : s0 ≤ ms M) (hc : mn f.2.2.2 - n0 ≤ R.cells) (hs : ms f.2.2.2 - s0 ≤ R.slots) (kk : KK w X q p l e R s m args below meth c Q n0 s0 f) : GG w p l e R s m args below meth c Q H locs M n0 s0 pc ls st := by
  obtain ⟨hx, hb, hrt, hml, hown, hts, hlk, hnm, hK, hO, hbs, hov0⟩ := C0
  have hov := ov_cat hov0
  obtain ⟨len, hd, hz⟩ := hd
  obtain ⟨rfl, rfl⟩ := hz rfl
  unfold step1 at h
  dsimp only at h
  split at h
  · split at h
    · rename_i ho
      split at h
      · rename_i hc1
        cases h
        cases cd <;> (simp only [cndOf, decide_eq_true_eq] at hc1) <;>
          first | exact lv_icmp_eq hx hb hd (jmp_to ho) (fun _ => kk _ _ _ hH hl hX) (fun z => by first | exact (z hc1).elim | exact (hc1 z).elim) | exact lv_icmp_ne hx hb hd (jmp_to ho) (fun _ => kk _ _ _ hH hl hX) (fun z => by first | exact (z hc1).elim | exact (hc1 z).elim) | exact lv_icmp_lt hx hb hd (jmp_to ho) (fun _ => kk _ _ _ hH hl hX) (fun z => by first | exact (z hc1).elim | exact (hc1 z).elim) | exact lv_icmp_ge hx hb hd (jmp_to ho) (fun _ => kk _ _ _ hH hl hX) (fun z => by first | exact (z hc1).elim | exact (hc1 z).elim) | exact lv_icmp_gt hx hb hd (jmp_to ho) (fun _ => kk _ _ _ hH hl hX) (fun z => by first | exact (z hc1).elim | exact (hc1 z).elim) | exact lv_icmp_le hx hb hd (jmp_to ho) (fun _ => kk _ _ _ hH hl hX) (fun z => by first | exact (z hc1).elim | exact (hc1 z).elim)
      · rename_i hc1
        cases h
        cases cd <;> (simp only [cndOf, decide_eq_true_eq] at hc1) <;>
          first | exact lv_icmp_eq hx hb hd (jmp_to ho) (fun z => by first | exact (z hc1).elim | exact (hc1 z).elim) (fun _ => kk _ _ _ hH hl hX) | exact lv_icmp_ne hx hb hd (jmp_to ho) (fun z => by first | exact (z hc1).elim | exact (hc1 z).elim) (fun _ => kk _ _ _ hH hl hX) | exact lv_icmp_lt hx hb hd (jmp_to ho) (fun z => by first | exact (z hc1).elim | exact (hc1 z).elim) (fun _ => kk _ _ _ hH hl hX) | exact lv_icmp_ge hx hb hd (jmp_to ho) (fun z => by first | exact (z hc1).elim | exact (hc1 z).elim) (fun _ => kk _ _ _ hH hl hX) | exact lv_icmp_gt hx hb hd (jmp_to ho) (fun z => by first | exact (z hc1).elim | exact (hc1 z).elim) (fun _ => kk _ _ _ hH hl hX) | exact lv_icmp_le hx hb hd (jmp_to ho) (fun z => by first | exact (z hc1).elim | exact (hc1 z).elim) (fun _ => kk _ _ _ hH hl hX)
    · cases h
  · cases h

theorem s_ifnull {st : List Value} {off : Int} (hd : DD q (.ifnull off) pc nx) (h : step1 q.2.2.2.2.1 (decide (q.1.name = "<init>")) (.ifnull off) pc nx L st M = some f) (C0 : Ctx w X q p s m args meth c) (hH : Hp w M s.heap H locs) (hl : lvh w ls q.2.2.1 L) (hX : mX M = X) (hn0 : n0 ≤ mn M) (hs0 : s0 ≤ ms M) (hc : mn f.2.2.2 - n0 ≤ R.cells) (hs : ms f.2.2.2 - s0 ≤ R.slots) (kk : KK w X q p l e R s m args below meth c Q n0 s0 f) : GG w p l e R s m args below meth c Q H locs M n0 s0 pc ls st := by
  obtain ⟨hx, hb, hrt, hml, hown, hts, hlk, hnm, hK, hO, hbs, hov0⟩ := C0
  have hov := ov_cat hov0
  obtain ⟨len, hd, hz⟩ := hd
  obtain ⟨rfl, rfl⟩ := hz rfl
  unfold step1 at h
  dsimp only at h
  split at h
  · split at h
    · rename_i ho
      cases h
      exact lv_ifnullN hx hb hd (jmp_to ho) (kk _ _ _ hH hl hX)
    · cases h
  · cases h
    exact lv_ifnull hx hb hd (kk _ _ _ hH hl hX)
  · cases h

theorem s_ifnonnull {st : List Value} {off : Int} (hd : DD q (.ifnonnull off) pc nx) (h : step1 q.2.2.2.2.1 (decide (q.1.name = "<init>")) (.ifnonnull off) pc nx L st M = some f) (C0 : Ctx w X q p s m args meth c) (hH : Hp w M s.heap H locs) (hl : lvh w ls q.2.2.1 L) (hX : mX M = X) (hn0 : n0 ≤ mn M) (hs0 : s0 ≤ ms M) (hc : mn f.2.2.2 - n0 ≤ R.cells) (hs : ms f.2.2.2 - s0 ≤ R.slots) (kk : KK w X q p l e R s m args below meth c Q n0 s0 f) : GG w p l e R s m args below meth c Q H locs M n0 s0 pc ls st := by
  obtain ⟨hx, hb, hrt, hml, hown, hts, hlk, hnm, hK, hO, hbs, hov0⟩ := C0
  have hov := ov_cat hov0
  obtain ⟨len, hd, hz⟩ := hd
  obtain ⟨rfl, rfl⟩ := hz rfl
  unfold step1 at h
  dsimp only at h
  split at h
  · cases h
    exact lv_ifnonnullN hx hb hd (kk _ _ _ hH hl hX)
  · split at h
    · rename_i ho
      cases h
      exact lv_ifnonnull hx hb hd (jmp_to ho) (kk _ _ _ hH hl hX)
    · cases h
  · cases h

theorem s_tableswitch {st : List Value} {dflt lo hi : Int} {offs : Array Int} (hd : DD q (.tableswitch dflt lo hi offs) pc nx) (h : step1 q.2.2.2.2.1 (decide (q.1.name = "<init>")) (.tableswitch dflt lo hi offs) pc nx L st M = some f) (C0 : Ctx w X q p s m args meth c) (hH : Hp w M s.heap H locs) (hl : lvh w ls q.2.2.1 L) (hX : mX M = X) (hn0 : n0 ≤ mn M) (hs0 : s0 ≤ ms M) (hc : mn f.2.2.2 - n0 ≤ R.cells) (hs : ms f.2.2.2 - s0 ≤ R.slots) (kk : KK w X q p l e R s m args below meth c Q n0 s0 f) : GG w p l e R s m args below meth c Q H locs M n0 s0 pc ls st := by
  obtain ⟨hx, hb, hrt, hml, hown, hts, hlk, hnm, hK, hO, hbs, hov0⟩ := C0
  have hov := ov_cat hov0
  obtain ⟨len, hd, hz⟩ := hd
  unfold step1 at h
  dsimp only at h
  split at h
  · split at h
    · rename_i hr
      split at h
      · rename_i ho
        cases h
        exact lv_tableOut hx hb hd hr (jmp_to ho) (kk _ _ _ hH hl hX)
      · cases h
    · rename_i hr
      split at h
      · rename_i off hoff
        split at h
        · rename_i ho
          cases h
          exact lv_tableIn hx hb hd (fun z => hr (Or.inl z)) (fun z => hr (Or.inr z)) hoff (jmp_to ho) (kk _ _ _ hH hl hX)
        · cases h
      · cases h
  · cases h

theorem s_lookupswitch {st : List Value} {dflt : Int} {ps : Array (Int × Int)} (hd : DD q (.lookupswitch dflt ps) pc nx) (h : step1 q.2.2.2.2.1 (decide (q.1.name = "<init>")) (.lookupswitch dflt ps) pc nx L st M = some f) (C0 : Ctx w X q p s m args meth c) (hH : Hp w M s.heap H locs) (hl : lvh w ls q.2.2.1 L) (hX : mX M = X) (hn0 : n0 ≤ mn M) (hs0 : s0 ≤ ms M) (hc : mn f.2.2.2 - n0 ≤ R.cells) (hs : ms f.2.2.2 - s0 ≤ R.slots) (kk : KK w X q p l e R s m args below meth c Q n0 s0 f) : GG w p l e R s m args below meth c Q H locs M n0 s0 pc ls st := by
  obtain ⟨hx, hb, hrt, hml, hown, hts, hlk, hnm, hK, hO, hbs, hov0⟩ := C0
  have hov := ov_cat hov0
  obtain ⟨len, hd, hz⟩ := hd
  unfold step1 at h
  dsimp only at h
  split at h
  · split at h
    · rename_i hr
      cases h
      exact lv_lookup hx hb hd hr.1 rfl (jmp_to hr.2) (kk _ _ _ hH hl hX)
    · cases h
  · cases h

theorem ldcw_string {T : State} {cells slots : Nat} (X : Stand p l e R s m args below meth c T locs cells slots) (hexec : p.tables.exec = Jvm.exec) {own text : String} {index : Nat} {a : Addr} (hown : s.vm.findClass own = some m.cls)
    (hconst : (Cond.stringRef own index text).before args s = true) (hev : (Term.string own index).eval args s none [] s = some (.ref a)) {g : JFrame} (hg : g.method = m) (hdg : decode c.code g.pc = .ok (.ldc_w index, 3)) :
    ∀ target, Steps p.tables e below (T.setTop { g with pc := g.pc + 3, stack := .ref a :: g.stack }) target → Steps p.tables e below (T.setTop g) target := by
  obtain ⟨k, cf, i, a', hk, hcf, hcp, -, hr, hev'⟩ := Cond.stringRef_spec hown hconst
  cases hev.symm.trans hev'
  obtain ⟨k', hk', he⟩ := X.warmed.alike.2.2 _ _ hk
  have hr' : k'.resolved[index]? = some (some (.string a)) := by
    rcases X.warmed.entry hk hk' index with h | ⟨h, -⟩
    · rw [h]; exact hr
    · rw [hr] at h; cases h
  intro target hrest
  subst hg
  jvm_step X.here [hexec, hdg, ldc_w.wp_string (e := e) (s := T) (f := g) X.here.top hk' (by rw [he]; exact hcf) hcp hr']
  exact hrest
theorem va_ldcwS {cc : ByteArray} {cells slots : Nat} {rest : List Value} (hexec : p.tables.exec = Jvm.exec) (hb : c.code = cc) {own tx : String} {index x : Nat} (hown : s.vm.findClass own = some m.cls) (hZ : vk_R own index tx x s) (hdg : decode cc pc = .ok (.ldc_w index, 3))
    (k : W p l e R s m args below meth c H locs cells slots Q (F0 m (pc + 3) ls (.ref x :: rest))) : W p l e R s m args below meth c H locs cells slots Q (F0 m pc ls rest) := by
  intro T hT X
  obtain ⟨t, a1, b1⟩ := k T hT X
  exact ⟨t, ldcw_string X hexec hown (text := tx) (a := x) hZ.1 hZ.2 (g := F0 m pc ls rest) rfl (by rw [hb]; exact hdg) t a1, b1⟩
theorem s_ldc_w {st : List Value} {k : Nat} (hd : DD q (.ldc_w k) pc nx) (h : step1 q.2.2.2.2.1 (decide (q.1.name = "<init>")) (.ldc_w k) pc nx L st M = some f) (C0 : Ctx w X q p s m args meth c) (hH : Hp w M s.heap H locs) (hl : lvh w ls q.2.2.1 L) (hX : mX M = X) (hn0 : n0 ≤ mn M) (hs0 : s0 ≤ ms M) (hc : mn f.2.2.2 - n0 ≤ R.cells) (hs : ms f.2.2.2 - s0 ≤ R.slots) (kk : KK w X q p l e R s m args below meth c Q n0 s0 f) : GG w p l e R s m args below meth c Q H locs M n0 s0 pc ls st := by
  obtain ⟨hx, hb, hrt, hml, hown, hts, hlk, hnm, hK, hO, hbs, hov0⟩ := C0
  have hov := ov_cat hov0
  obtain ⟨len, hd, hz⟩ := hd
  obtain ⟨rfl, rfl⟩ := hz rfl
  unfold step1 at h
  dsimp only at h
  split at h
  · rename_i v hv
    cases h
    exact lv_ldcw hx hb hown (hts _ (hasW_mem (List.all_eq_true.mp ldcsI_ok _ (look_mem hv)))) hd (kk _ _ _ hH hl hX)
  · split at h
    · rename_i hm
      cases h
      obtain ⟨-, -, -, -, -, ⟨kA, vA, f1, f2, f3, f4, f5, f6, f7⟩, -⟩ := hO
      have kk : W p l e R s m args below meth c H locs (mn M - n0) (ms M - s0) Q (F0 m _ ls (w.2.2.2 3 :: st.map (cv w))) := kk _ _ _ hH hl hX
      rw [f1] at kk
      have hR := f7 (q.2.2.2.2.1, k) (List.contains_iff_mem.mp hm)
      exact va_ldcwS hx hb hown hR hd kk
    · cases h

theorem s_ldc {st : List Value} {k : Nat} (hd : DD q (.ldc k) pc nx) (h : step1 q.2.2.2.2.1 (decide (q.1.name = "<init>")) (.ldc k) pc nx L st M = some f) (C0 : Ctx w X q p s m args meth c) (hH : Hp w M s.heap H locs) (hl : lvh w ls q.2.2.1 L) (hX : mX M = X) (hn0 : n0 ≤ mn M) (hs0 : s0 ≤ ms M) (hc : mn f.2.2.2 - n0 ≤ R.cells) (hs : ms f.2.2.2 - s0 ≤ R.slots) (kk : KK w X q p l e R s m args below meth c Q n0 s0 f) : GG w p l e R s m args below meth c Q H locs M n0 s0 pc ls st := by
  obtain ⟨hx, hb, hrt, hml, hown, hts, hlk, hnm, hK, hO, hbs, hov0⟩ := C0
  have hov := ov_cat hov0
  obtain ⟨len, hd, hz⟩ := hd
  obtain ⟨rfl, rfl⟩ := hz rfl
  unfold step1 at h
  dsimp only at h
  split at h
  · rename_i v hv
    cases h
    exact lv_ldc hx hb hown (hts _ (hasW_mem (List.all_eq_true.mp ldcsI_ok _ (look_mem hv)))) hd (kk _ _ _ hH hl hX)
  · split at h
    · rename_i hm
      cases h
      obtain ⟨-, -, -, -, -, ⟨kA, vA, f1, f2, f3, f4, f5, f6, f7⟩, -⟩ := hO
      have kk : W p l e R s m args below meth c H locs (mn M - n0) (ms M - s0) Q (F0 m _ ls (w.2.2.2 3 :: st.map (cv w))) := kk _ _ _ hH hl hX
      rw [f1] at kk
      have hR := f7 (q.2.2.2.2.1, k) (List.contains_iff_mem.mp hm)
      exact va_ldcS hx hb hown hR hd kk
    · cases h

theorem s_ldc2_w {st : List Value} {k : Nat} (hd : DD q (.ldc2_w k) pc nx) (h : step1 q.2.2.2.2.1 (decide (q.1.name = "<init>")) (.ldc2_w k) pc nx L st M = some f) (C0 : Ctx w X q p s m args meth c) (hH : Hp w M s.heap H locs) (hl : lvh w ls q.2.2.1 L) (hX : mX M = X) (hn0 : n0 ≤ mn M) (hs0 : s0 ≤ ms M) (hc : mn f.2.2.2 - n0 ≤ R.cells) (hs : ms f.2.2.2 - s0 ≤ R.slots) (kk : KK w X q p l e R s m args below meth c Q n0 s0 f) : GG w p l e R s m args below meth c Q H locs M n0 s0 pc ls st := by
  obtain ⟨hx, hb, hrt, hml, hown, hts, hlk, hnm, hK, hO, hbs, hov0⟩ := C0
  have hov := ov_cat hov0
  obtain ⟨len, hd, hz⟩ := hd
  obtain ⟨rfl, rfl⟩ := hz rfl
  unfold step1 at h
  dsimp only at h
  split at h
  · rename_i v hv
    cases h
    exact lv_ldc2 hx hb hown (hts _ (hasW_mem (List.all_eq_true.mp ldcsL_ok _ (look_mem hv)))) hd (kk _ _ _ hH hl hX)
  · cases h

end STEP
