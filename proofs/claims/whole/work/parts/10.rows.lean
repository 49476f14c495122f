/-! FROM BYTECODE TO FUNCTIONS: combinators, and for each the rows that tie it to a run -/
section COMB
variable {α : Type}
def gI (c j : Nat) (M : Mem) (a : Nat) (k : Int32 → Option α) : Option α := if mK M a = c then k (mI M a j) else none
def gJ (c j : Nat) (M : Mem) (a : Nat) (k : Int64 → Option α) : Option α := if mK M a = c then k (mJ M a j) else none
def gR (c j : Nat) (M : Mem) (a : Nat) (k : Option Nat → Option α) : Option α := if mK M a = c then k (mR M a j) else none
def pI (c j : Nat) (M : Mem) (a : Nat) (v : Int32) (k : Mem → Option α) : Option α := if mK M a = c then k (wI M a j v) else none
def pZ (c j : Nat) (M : Mem) (a : Nat) (v : Int32) (k : Mem → Option α) : Option α := if mK M a = c ∧ (vp_nar .boolean v = v ∧ fits .boolean (.int v) = true) then k (wI M a j v) else none
def pB (c j : Nat) (M : Mem) (a : Nat) (v : Int32) (k : Mem → Option α) : Option α := if mK M a = c ∧ (vp_nar .byte v = v ∧ fits .byte (.int v) = true) then k (wI M a j v) else none
def pJ (c j : Nat) (M : Mem) (a : Nat) (v : Int64) (k : Mem → Option α) : Option α := if mK M a = c then k (wJ M a j v) else none
def pR (c j : Nat) (M : Mem) (a b : Nat) (k : Mem → Option α) : Option α := if mK M a = c then k (wR M a j (some b)) else none
def aI (M : Mem) (a : Nat) (i : Int32) (k : Int32 → Option α) : Option α := if mK M a = 100 ∧ inR i (mL M a) = true then k (mI M a i.toNatClampNeg) else none
def aX (M : Mem) (i : Int32) (k : Int32 → Option α) : Option α := if inR i (mX M).1 = true then k ((mX M).2 i.toNatClampNeg) else none
def sI (M : Mem) (a : Nat) (i v : Int32) (k : Mem → Option α) : Option α := if mK M a = 100 ∧ inR i (mL M a) = true then k (wI M a i.toNatClampNeg v) else none
def aB (M : Mem) (a : Nat) (i : Int32) (k : Int32 → Option α) : Option α := if (mK M a = 101 ∨ mK M a = 102) ∧ inR i (mL M a) = true then k (mI M a i.toNatClampNeg) else none
def aO (o : Nat) (i : Int32) (k : Int32 → Option α) : Option α := if (o = 1 ∨ o = 2 ∨ o = 4) ∧ inR i (oldB o).length = true then k ((oldB o).getD i.toNatClampNeg 0) else none
def sB (M : Mem) (a : Nat) (i v : Int32) (k : Mem → Option α) : Option α := if inR i (mL M a) = true then (if mK M a = 101 then k (wI M a i.toNatClampNeg (vp_nar .byte v)) else if mK M a = 102 then k (wI M a i.toNatClampNeg (vp_nar .boolean v)) else none) else none
def aR (M : Mem) (a : Nat) (i : Int32) (k : Option Nat → Option α) : Option α := if (mK M a = 103 ∨ mK M a = 104 ∨ mK M a = 105) ∧ inR i (mL M a) = true then k (mR M a i.toNatClampNeg) else none
def sR (M : Mem) (a : Nat) (i : Int32) (b : Nat) (k : Mem → Option α) : Option α := if ((mK M a = 103 ∧ mK M b = 1) ∨ (mK M a = 104 ∧ mK M b = 3) ∨ (mK M a = 105 ∧ mK M b = 6)) ∧ inR i (mL M a) = true then k (wR M a i.toNatClampNeg (some b)) else none
def aN (M : Mem) (a : Nat) (k : Int32 → Option α) : Option α := if 100 ≤ mK M a ∧ mK M a < 106 then k (Int32.ofNat (mL M a)) else none
def nO (M : Mem) (kd len : Nat) (k : Nat → Mem → Option α) : Option α := k (mn M) (nC M kd len)
def nA (M : Mem) (kd : Nat) (x : Int32) (k : Nat → Mem → Option α) : Option α := if ¬ x < 0 ∧ x.toNatClampNeg ≤ 1000000 then k (mn M) (nC M kd x.toNatClampNeg) else none
def cpA (M : Mem) (a : Nat) (sp : Int32) (b : Nat) (dp x : Int32) (k : Mem → Option α) : Option α := if (mK M a = 100 ∨ mK M a = 101) ∧ mK M b = mK M a ∧ ¬ sp < 0 ∧ ¬ dp < 0 ∧ ¬ x < 0 ∧ sp.toNatClampNeg + x.toNatClampNeg ≤ mL M a ∧ dp.toNatClampNeg + x.toNatClampNeg ≤ mL M b then k (wA M b (va_cpy (mI M a) (mI M b) sp.toNatClampNeg dp.toNatClampNeg x.toNatClampNeg)) else none
def ck (M : Mem) (a c : Nat) (k : Option α) : Option α := if mK M a = c then k else none
def dvI (x y : Int32) (k : Int32 → Option α) : Option α := if y = 0 then none else k (x / y)
def rmI (x y : Int32) (k : Int32 → Option α) : Option α := if y = 0 then none else k (x - x / y * y)
def nmI (x : Int32) (k : Int32 → Option α) : Option α := k x
def cI (x : Option (Int32 × Mem)) (k : Int32 → Mem → Option α) : Option α := match x with
  | some r => k r.1 r.2
  | none => none
def cV (x : Option Mem) (k : Mem → Option α) : Option α := match x with
  | some r => k r
  | none => none
def cR (x : Option (Option Nat × Mem)) (k : Option Nat → Mem → Option α) : Option α := match x with
  | some r => k r.1 r.2
  | none => none
def onR (o : Option Nat) (kn : Option α) (ks : Nat → Option α) : Option α := match o with
  | none => kn
  | some a => ks a
def nrZ (t : FieldType) (v : Int32) (k : Option α) : Option α := if narrow t (.int v) = .int v then k else none
end COMB
def MX (mi o : Nat) (ini : Bool) (rt : Option FieldType) (il : List (Nat × Instr × Nat)) : Prop := ∃ q : MT, mtabL[mi]? = some q ∧ q.2.2.2.2.1 = o ∧ decide (q.1.name = "<init>") = ini ∧ q.2.2.2.1 = rt ∧ q.2.2.2.2.2 = il
section ROWS
variable {β : Type} {y : β} {d mi pc nx o : Nat} {ini : Bool} {rt : Option FieldType} {il : List (Nat × Instr × Nat)} {L : List (Option Value)} {st : List Value} {M : Mem} {r : Option Value × Mem}
theorem EV_step {i : Instr} {f : Fr} (hm : MX mi o ini rt il) (hl : il.lookup pc = some (i, nx)) (h1 : isRet i = false) (h2 : invIx i = none) (hs : step1 o ini i pc nx L st M = some f) (k : EV d mi f.1 f.2.1 f.2.2.1 f.2.2.2 r) : EV d mi pc L st M r := by
  obtain ⟨q, hq, rfl, rfl, rfl, rfl⟩ := hm
  obtain ⟨n, hn⟩ := k
  refine ⟨n + 1, ?_⟩
  unfold ev
  rw [hq]
  dsimp only
  rw [hl]
  dsimp only
  rw [h1, h2]
  dsimp only
  rw [hs]
  exact hn
/-- a stretch of instructions that only move values -/
def stpL (o : Nat) (ini : Bool) : List (Nat × Instr × Nat) → Fr → Option Fr
  | [], f => some f
  | e :: l, f => if f.1 = e.1 ∧ isRet e.2.1 = false ∧ invIx e.2.1 = none then
      match step1 o ini e.2.1 e.1 e.2.2 f.2.1 f.2.2.1 f.2.2.2 with
      | some f2 => stpL o ini l f2
      | none => none
    else none
theorem EV_stp (hm : MX mi o ini rt il) : ∀ (l : List (Nat × Instr × Nat)) (f f2 : Fr), (∀ e ∈ l, il.lookup e.1 = some e.2) → stpL o ini l f = some f2 → EV d mi f2.1 f2.2.1 f2.2.2.1 f2.2.2.2 r → EV d mi f.1 f.2.1 f.2.2.1 f.2.2.2 r
  | [], f, f2, _, hs, k => by cases hs; exact k
  | e :: l, f, f2, hB, hs, k => by
    unfold stpL at hs
    split at hs
    · rename_i hc
      obtain ⟨e1, e2, e3⟩ := e
      obtain ⟨f1, ff⟩ := f
      obtain ⟨h1, h2, h3⟩ := hc
      dsimp only at h1 h2 h3 hs
      subst h1
      split at hs
      · rename_i f3 hf3
        refine EV_step hm (hB _ List.mem_cons_self) h2 h3 hf3 ?_
        exact EV_stp hm l f3 f2 (fun e he => hB e (List.mem_cons_of_mem _ he)) hs k
      · cases hs
    · cases hs
theorem r_ret {i : Instr} {v : Option Value} (hm : MX mi o ini rt il) (hl : il.lookup pc = some (i, nx)) (h1 : isRet i = true) (h2 : retOK rt i st = some v) : EV d mi pc L st M (v, M) := by
  obtain ⟨q, hq, rfl, rfl, rfl, rfl⟩ := hm
  refine ⟨1, ?_⟩
  unfold ev
  rw [hq]
  dsimp only
  rw [hl]
  dsimp only
  rw [if_pos h1, h2]
  rfl
theorem r_gI {k a : Nat} {g : Nat × Nat × Nat × Nat} {kf : Int32 → Option β} (hm : MX mi o ini rt il) (hl : il.lookup pc = some (.getfield k, nx)) (hf : flds.lookup (o, k) = some g) (ht : cty g.1 g.2.1 ≠ 4 ∧ cty g.1 g.2.1 ≠ 5) (h : gI (g.1 + 1) g.2.1 M a kf = some y) (kk : ∀ v, kf v = some y → EV d mi nx L (.int v :: st) M r) : EV d mi pc L (.ref a :: st) M r := by
  unfold gI at h
  split at h
  · rename_i hk
    refine EV_step hm hl rfl rfl (f := (nx, L, .int (mI M a g.2.1) :: st, M)) ?_ (kk _ h)
    unfold step1
    dsimp only
    rw [hf]
    dsimp only
    rw [if_pos hk]
    unfold slotA
    split
    · rename_i hz; exact absurd hz ht.1
    · rename_i hz; exact absurd hz ht.2
    · rfl
  · cases h
theorem r_gJ {k a : Nat} {g : Nat × Nat × Nat × Nat} {kf : Int64 → Option β} (hm : MX mi o ini rt il) (hl : il.lookup pc = some (.getfield k, nx)) (hf : flds.lookup (o, k) = some g) (ht : cty g.1 g.2.1 = 4) (h : gJ (g.1 + 1) g.2.1 M a kf = some y) (kk : ∀ v, kf v = some y → EV d mi nx L (.long v :: st) M r) : EV d mi pc L (.ref a :: st) M r := by
  unfold gJ at h
  split at h
  · rename_i hk
    refine EV_step hm hl rfl rfl (f := (nx, L, .long (mJ M a g.2.1) :: st, M)) ?_ (kk _ h)
    unfold step1
    dsimp only
    rw [hf]
    dsimp only
    rw [if_pos hk]
    unfold slotA
    rw [ht]
    rfl
  · cases h
theorem r_gR {k a : Nat} {g : Nat × Nat × Nat × Nat} {kf : Option Nat → Option β} (hm : MX mi o ini rt il) (hl : il.lookup pc = some (.getfield k, nx)) (hf : flds.lookup (o, k) = some g) (ht : cty g.1 g.2.1 = 5) (h : gR (g.1 + 1) g.2.1 M a kf = some y) (kk : ∀ v, kf v = some y → EV d mi nx L (rfv v :: st) M r) : EV d mi pc L (.ref a :: st) M r := by
  unfold gR at h
  split at h
  · rename_i hk
    refine EV_step hm hl rfl rfl (f := (nx, L, rfv (mR M a g.2.1) :: st, M)) ?_ (kk _ h)
    unfold step1
    dsimp only
    rw [hf]
    dsimp only
    rw [if_pos hk]
    unfold slotA
    rw [ht]
    rfl
  · cases h
theorem put_step {k a : Nat} {g : Nat × Nat × Nat × Nat} {v : Value} {M' : Mem} (hm : MX mi o ini rt il) (hl : il.lookup pc = some (.putfield k, nx)) (hf : flds.lookup (o, k) = some g) (hk : mK M a = g.1 + 1) (hfin : ffin g.1 g.2.1 = false ∨ (ini = true ∧ g.2.2.1 = 0 ∧ fdecl g.1 g.2.1 = oN o)) (hs : (match cty g.1 g.2.1, v with
          | 0, .int x => some (nx, L, st, wI M a g.2.1 x)
          | 1, .int x => if vp_nar .boolean x = x ∧ fits .boolean (.int x) = true then some (nx, L, st, wI M a g.2.1 x) else none
          | 2, .int x => if vp_nar .byte x = x ∧ fits .byte (.int x) = true then some (nx, L, st, wI M a g.2.1 x) else none
          | 4, .long x => some (nx, L, st, wJ M a g.2.1 x)
          | 5, .ref b => some (nx, L, st, wR M a g.2.1 (some b))
          | _, _ => none) = some ((nx, L, st, M') : Fr)) (kk : EV d mi nx L st M' r) : EV d mi pc L (v :: .ref a :: st) M r := by
  refine EV_step hm hl rfl rfl (f := (nx, L, st, M')) ?_ kk
  unfold step1
  dsimp only
  rw [hf]
  dsimp only
  rw [if_pos ⟨hk, hfin⟩]
  exact hs
theorem r_pI {k a : Nat} {v : Int32} {g : Nat × Nat × Nat × Nat} {kf : Mem → Option β} (hm : MX mi o ini rt il) (hl : il.lookup pc = some (.putfield k, nx)) (hf : flds.lookup (o, k) = some g) (hfin : ffin g.1 g.2.1 = false ∨ (ini = true ∧ g.2.2.1 = 0 ∧ fdecl g.1 g.2.1 = oN o)) (ht : cty g.1 g.2.1 = 0) (h : pI (g.1 + 1) g.2.1 M a v kf = some y) (kk : ∀ M', kf M' = some y → EV d mi nx L st M' r) : EV d mi pc L (.int v :: .ref a :: st) M r := by
  unfold pI at h
  split at h
  · rename_i hk
    exact put_step hm hl hf hk hfin (by rw [ht]; rfl) (kk _ h)
  · cases h
theorem r_pZ {k a : Nat} {v : Int32} {g : Nat × Nat × Nat × Nat} {kf : Mem → Option β} (hm : MX mi o ini rt il) (hl : il.lookup pc = some (.putfield k, nx)) (hf : flds.lookup (o, k) = some g) (hfin : ffin g.1 g.2.1 = false ∨ (ini = true ∧ g.2.2.1 = 0 ∧ fdecl g.1 g.2.1 = oN o)) (ht : cty g.1 g.2.1 = 1) (h : pZ (g.1 + 1) g.2.1 M a v kf = some y) (kk : ∀ M', kf M' = some y → EV d mi nx L st M' r) : EV d mi pc L (.int v :: .ref a :: st) M r := by
  unfold pZ at h
  split at h
  · rename_i hk
    refine put_step hm hl hf hk.1 hfin ?_ (kk _ h)
    rw [ht]
    exact if_pos hk.2
  · cases h
theorem r_pB {k a : Nat} {v : Int32} {g : Nat × Nat × Nat × Nat} {kf : Mem → Option β} (hm : MX mi o ini rt il) (hl : il.lookup pc = some (.putfield k, nx)) (hf : flds.lookup (o, k) = some g) (hfin : ffin g.1 g.2.1 = false ∨ (ini = true ∧ g.2.2.1 = 0 ∧ fdecl g.1 g.2.1 = oN o)) (ht : cty g.1 g.2.1 = 2) (h : pB (g.1 + 1) g.2.1 M a v kf = some y) (kk : ∀ M', kf M' = some y → EV d mi nx L st M' r) : EV d mi pc L (.int v :: .ref a :: st) M r := by
  unfold pB at h
  split at h
  · rename_i hk
    refine put_step hm hl hf hk.1 hfin ?_ (kk _ h)
    rw [ht]
    exact if_pos hk.2
  · cases h
theorem r_pJ {k a : Nat} {v : Int64} {g : Nat × Nat × Nat × Nat} {kf : Mem → Option β} (hm : MX mi o ini rt il) (hl : il.lookup pc = some (.putfield k, nx)) (hf : flds.lookup (o, k) = some g) (hfin : ffin g.1 g.2.1 = false ∨ (ini = true ∧ g.2.2.1 = 0 ∧ fdecl g.1 g.2.1 = oN o)) (ht : cty g.1 g.2.1 = 4) (h : pJ (g.1 + 1) g.2.1 M a v kf = some y) (kk : ∀ M', kf M' = some y → EV d mi nx L st M' r) : EV d mi pc L (.long v :: .ref a :: st) M r := by
  unfold pJ at h
  split at h
  · rename_i hk
    exact put_step hm hl hf hk hfin (by rw [ht]; rfl) (kk _ h)
  · cases h
theorem r_pR {k a b : Nat} {g : Nat × Nat × Nat × Nat} {kf : Mem → Option β} (hm : MX mi o ini rt il) (hl : il.lookup pc = some (.putfield k, nx)) (hf : flds.lookup (o, k) = some g) (hfin : ffin g.1 g.2.1 = false ∨ (ini = true ∧ g.2.2.1 = 0 ∧ fdecl g.1 g.2.1 = oN o)) (ht : cty g.1 g.2.1 = 5) (h : pR (g.1 + 1) g.2.1 M a b kf = some y) (kk : ∀ M', kf M' = some y → EV d mi nx L st M' r) : EV d mi pc L (.ref b :: .ref a :: st) M r := by
  unfold pR at h
  split at h
  · rename_i hk
    exact put_step hm hl hf hk hfin (by rw [ht]; rfl) (kk _ h)
  · cases h
theorem r_aI {a : Nat} {i : Int32} {kf : Int32 → Option β} (hm : MX mi o ini rt il) (hl : il.lookup pc = some (.iaload, nx)) (h : aI M a i kf = some y) (kk : ∀ v, kf v = some y → EV d mi nx L (.int v :: st) M r) : EV d mi pc L (.int i :: .ref a :: st) M r := by
  unfold aI at h
  split at h
  · rename_i hk
    exact EV_step hm hl rfl rfl (f := (nx, L, .int (mI M a i.toNatClampNeg) :: st, M)) (if_pos hk) (kk _ h)
  · cases h
theorem r_aX {i : Int32} {kf : Int32 → Option β} (hm : MX mi o ini rt il) (hl : il.lookup pc = some (.iaload, nx)) (h : aX M i kf = some y) (kk : ∀ v, kf v = some y → EV d mi nx L (.int v :: st) M r) : EV d mi pc L (.int i :: .retAddr 0 :: st) M r := by
  unfold aX at h
  split at h
  · rename_i hk
    exact EV_step hm hl rfl rfl (f := (nx, L, .int ((mX M).2 i.toNatClampNeg) :: st, M)) (if_pos hk) (kk _ h)
  · cases h
theorem r_sI {a : Nat} {i v : Int32} {kf : Mem → Option β} (hm : MX mi o ini rt il) (hl : il.lookup pc = some (.iastore, nx)) (h : sI M a i v kf = some y) (kk : ∀ M', kf M' = some y → EV d mi nx L st M' r) : EV d mi pc L (.int v :: .int i :: .ref a :: st) M r := by
  unfold sI at h
  split at h
  · rename_i hk
    exact EV_step hm hl rfl rfl (f := (nx, L, st, wI M a i.toNatClampNeg v)) (if_pos hk) (kk _ h)
  · cases h
theorem r_aB {a : Nat} {i : Int32} {kf : Int32 → Option β} (hm : MX mi o ini rt il) (hl : il.lookup pc = some (.baload, nx)) (h : aB M a i kf = some y) (kk : ∀ v, kf v = some y → EV d mi nx L (.int v :: st) M r) : EV d mi pc L (.int i :: .ref a :: st) M r := by
  unfold aB at h
  split at h
  · rename_i hk
    exact EV_step hm hl rfl rfl (f := (nx, L, .int (mI M a i.toNatClampNeg) :: st, M)) (if_pos hk) (kk _ h)
  · cases h
theorem r_aO {a : Nat} {i : Int32} {kf : Int32 → Option β} (hm : MX mi o ini rt il) (hl : il.lookup pc = some (.baload, nx)) (h : aO a i kf = some y) (kk : ∀ v, kf v = some y → EV d mi nx L (.int v :: st) M r) : EV d mi pc L (.int i :: .retAddr a :: st) M r := by
  unfold aO at h
  split at h
  · rename_i hk
    exact EV_step hm hl rfl rfl (f := (nx, L, .int ((oldB a).getD i.toNatClampNeg 0) :: st, M)) (if_pos hk) (kk _ h)
  · cases h
theorem r_sB {a : Nat} {i v : Int32} {kf : Mem → Option β} (hm : MX mi o ini rt il) (hl : il.lookup pc = some (.bastore, nx)) (h : sB M a i v kf = some y) (kk : ∀ M', kf M' = some y → EV d mi nx L st M' r) : EV d mi pc L (.int v :: .int i :: .ref a :: st) M r := by
  unfold sB at h
  split at h
  · rename_i hin
    split at h
    · rename_i hk
      refine EV_step hm hl rfl rfl (f := (nx, L, st, wI M a i.toNatClampNeg (vp_nar .byte v))) ?_ (kk _ h)
      unfold step1
      dsimp only
      rw [if_pos hin, if_pos hk]
    · rename_i hk1
      split at h
      · rename_i hk
        refine EV_step hm hl rfl rfl (f := (nx, L, st, wI M a i.toNatClampNeg (vp_nar .boolean v))) ?_ (kk _ h)
        unfold step1
        dsimp only
        rw [if_pos hin, if_neg hk1, if_pos hk]
      · cases h
  · cases h
theorem r_aR {a : Nat} {i : Int32} {kf : Option Nat → Option β} (hm : MX mi o ini rt il) (hl : il.lookup pc = some (.aaload, nx)) (h : aR M a i kf = some y) (kk : ∀ v, kf v = some y → EV d mi nx L (rfv v :: st) M r) : EV d mi pc L (.int i :: .ref a :: st) M r := by
  unfold aR at h
  split at h
  · rename_i hk
    exact EV_step hm hl rfl rfl (f := (nx, L, rfv (mR M a i.toNatClampNeg) :: st, M)) (if_pos hk) (kk _ h)
  · cases h
theorem r_sR {a b : Nat} {i : Int32} {kf : Mem → Option β} (hm : MX mi o ini rt il) (hl : il.lookup pc = some (.aastore, nx)) (h : sR M a i b kf = some y) (kk : ∀ M', kf M' = some y → EV d mi nx L st M' r) : EV d mi pc L (.ref b :: .int i :: .ref a :: st) M r := by
  unfold sR at h
  split at h
  · rename_i hk
    exact EV_step hm hl rfl rfl (f := (nx, L, st, wR M a i.toNatClampNeg (some b))) (if_pos hk) (kk _ h)
  · cases h
theorem r_aN {a : Nat} {kf : Int32 → Option β} (hm : MX mi o ini rt il) (hl : il.lookup pc = some (.arraylength, nx)) (h : aN M a kf = some y) (kk : ∀ v, kf v = some y → EV d mi nx L (.int v :: st) M r) : EV d mi pc L (.ref a :: st) M r := by
  unfold aN at h
  split at h
  · rename_i hk
    exact EV_step hm hl rfl rfl (f := (nx, L, .int (Int32.ofNat (mL M a)) :: st, M)) (if_pos hk) (kk _ h)
  · cases h
theorem r_nO {k : Nat} {g : Nat × Nat × Nat × Nat} {kf : Nat → Mem → Option β} (hm : MX mi o ini rt il) (hl : il.lookup pc = some (.new k, nx)) (hf : news.lookup (o, k) = some g) (h : nO M (g.1 + 1) (cN g.1) kf = some y) (kk : ∀ a M', kf a M' = some y → EV d mi nx L (.ref a :: st) M' r) : EV d mi pc L st M r := by
  refine EV_step hm hl rfl rfl (f := (nx, L, .ref (mn M) :: st, nC M (g.1 + 1) (cN g.1))) ?_ (kk _ _ h)
  unfold step1
  dsimp only
  rw [hf]
theorem r_nA {t : ArrayType} {x : Int32} {kf : Nat → Mem → Option β} (hm : MX mi o ini rt il) (hl : il.lookup pc = some (.newarray t, nx)) (hak : akOf t ≠ 0) (h : nA M (akOf t) x kf = some y) (kk : ∀ a M', kf a M' = some y → EV d mi nx L (.ref a :: st) M' r) : EV d mi pc L (.int x :: st) M r := by
  unfold nA at h
  split at h
  · rename_i hk
    exact EV_step hm hl rfl rfl (f := (nx, L, .ref (mn M) :: st, nC M (akOf t) x.toNatClampNeg)) (if_pos ⟨hk.1, hk.2, hak⟩) (kk _ _ h)
  · cases h
theorem r_nR {k : Nat} {g : Nat × Nat × Nat} {x : Int32} {kf : Nat → Mem → Option β} (hm : MX mi o ini rt il) (hl : il.lookup pc = some (.anewarray k, nx)) (hf : anews.lookup (o, k) = some g) (h : nA M g.1 x kf = some y) (kk : ∀ a M', kf a M' = some y → EV d mi nx L (.ref a :: st) M' r) : EV d mi pc L (.int x :: st) M r := by
  unfold nA at h
  split at h
  · rename_i hk
    refine EV_step hm hl rfl rfl (f := (nx, L, .ref (mn M) :: st, nC M g.1 x.toNatClampNeg)) ?_ (kk _ _ h)
    unfold step1
    dsimp only
    rw [hf]
    exact if_pos hk
  · cases h
theorem r_dv {x z : Int32} {kf : Int32 → Option β} (hm : MX mi o ini rt il) (hl : il.lookup pc = some (.idiv, nx)) (h : dvI x z kf = some y) (kk : ∀ v, kf v = some y → EV d mi nx L (.int v :: st) M r) : EV d mi pc L (.int z :: .int x :: st) M r := by
  unfold dvI at h
  split at h
  · cases h
  · rename_i hz
    exact EV_step hm hl rfl rfl (f := (nx, L, .int (x / z) :: st, M)) (if_neg hz) (kk _ h)
theorem r_rm {x z : Int32} {kf : Int32 → Option β} (hm : MX mi o ini rt il) (hl : il.lookup pc = some (.irem, nx)) (h : rmI x z kf = some y) (kk : ∀ v, kf v = some y → EV d mi nx L (.int v :: st) M r) : EV d mi pc L (.int z :: .int x :: st) M r := by
  unfold rmI at h
  split at h
  · cases h
  · rename_i hz
    exact EV_step hm hl rfl rfl (f := (nx, L, .int (x - x / z * z) :: st, M)) (if_neg hz) (kk _ h)
theorem r_nm {x : Int32} {kf : Int32 → Option β} (h : nmI x kf = some y) (kk : ∀ v, kf v = some y → EV d mi pc L (.int v :: st) M r) : EV d mi pc L (.int x :: st) M r := kk x h
theorem r_if {cd : ClassFile.Cond} {off : Int} {x : Int32} {tgt : Nat} (hm : MX mi o ini rt il) (hl : il.lookup pc = some (.ifCond cd off, nx)) (ho : 0 ≤ (pc : Int) + off) (ht : jmp pc off = tgt) (kt : cndOf cd x 0 = true → EV d mi tgt L st M r) (kf : cndOf cd x 0 = false → EV d mi nx L st M r) : EV d mi pc L (.int x :: st) M r := by
  subst ht
  cases hc : cndOf cd x 0 with
  | true =>
    refine EV_step hm hl rfl rfl (f := (jmp pc off, L, st, M)) ?_ (kt hc)
    unfold step1
    dsimp only
    rw [if_pos ho, if_pos hc]
  | false =>
    refine EV_step hm hl rfl rfl (f := (nx, L, st, M)) ?_ (kf hc)
    unfold step1
    dsimp only
    rw [if_pos ho, if_neg (by rw [hc]; decide)]
theorem r_ic {cd : ClassFile.Cond} {off : Int} {x z : Int32} {tgt : Nat} (hm : MX mi o ini rt il) (hl : il.lookup pc = some (.if_icmp cd off, nx)) (ho : 0 ≤ (pc : Int) + off) (ht : jmp pc off = tgt) (kt : cndOf cd x z = true → EV d mi tgt L st M r) (kf : cndOf cd x z = false → EV d mi nx L st M r) : EV d mi pc L (.int z :: .int x :: st) M r := by
  subst ht
  cases hc : cndOf cd x z with
  | true =>
    refine EV_step hm hl rfl rfl (f := (jmp pc off, L, st, M)) ?_ (kt hc)
    unfold step1
    dsimp only
    rw [if_pos ho, if_pos hc]
  | false =>
    refine EV_step hm hl rfl rfl (f := (nx, L, st, M)) ?_ (kf hc)
    unfold step1
    dsimp only
    rw [if_pos ho, if_neg (by rw [hc]; decide)]
/-- an if of the function against a branch of the code -/
theorem h_ite {c : Prop} {inst : Decidable c} {A B : Option β} {b : Bool} {G : Prop} (h : @ite _ c inst A B = some y) (hb : b = true ↔ c) (kt : A = some y → b = true → G) (kf : B = some y → b = false → G) : G := by
  by_cases hc : c
  · rw [if_pos hc] at h
    exact kt h (hb.mpr hc)
  · rw [if_neg hc] at h
    exact kf h (by cases hz : b with
      | true => exact absurd (hb.mp hz) hc
      | false => rfl)
theorem ev_fuel : ∀ (n d mi pc : Nat) (L : List (Option Value)) (st : List Value) (M : Mem) (r : Option Value × Mem), ev n d mi pc L st M = some r → ev (n + 1) d mi pc L st M = some r := by
  intro n
  induction n with
  | zero => intro d mi pc L st M r h; cases h
  | succ n ih =>
    intro d mi pc L st M r h
    unfold ev at h ⊢
    cases hq : mtabL[mi]? with
    | none => rw [hq] at h; cases h
    | some q =>
      rw [hq] at h
      dsimp only at h ⊢
      cases hl : q.2.2.2.2.2.lookup pc with
      | none => rw [hl] at h; cases h
      | some e =>
        rw [hl] at h
        dsimp only at h ⊢
        by_cases hi : isRet e.1 = true
        · rw [if_pos hi] at h ⊢
          exact h
        · rw [if_neg hi] at h ⊢
          cases hk : invIx e.1 with
          | none =>
            rw [hk] at h
            dsimp only at h ⊢
            cases hs : step1 q.2.2.2.2.1 (decide (q.1.name = "<init>")) e.1 pc e.2 L st M with
            | none => rw [hs] at h; cases h
            | some f =>
              rw [hs] at h
              dsimp only at h ⊢
              exact ih _ _ _ _ _ _ _ h
          | some k =>
            rw [hk] at h
            dsimp only at h ⊢
            cases hS : sites.lookup (q.2.2.2.2.1, k) with
            | none => rw [hS] at h; cases h
            | some S =>
              rw [hS] at h
              dsimp only at h ⊢
              by_cases hm : modeI S.1 e.1 = false ∨ d = 0
              · rw [if_pos hm] at h; cases h
              · rw [if_neg hm] at h ⊢
                by_cases h8 : S.1 = 8
                · rw [if_pos h8] at h ⊢
                  split at h
                  · split at h
                    · rename_i hc
                      try dsimp only
                      rw [if_pos hc]
                      exact ih _ _ _ _ _ _ _ h
                    · cases h
                  · cases h
                · rw [if_neg h8] at h ⊢
                  by_cases h9 : S.1 = 9
                  · rw [if_pos h9] at h ⊢
                    split at h
                    · split at h
                      · rename_i hc
                        try dsimp only
                        rw [if_pos hc]
                        exact ih _ _ _ _ _ _ _ h
                      · cases h
                    · cases h
                  · rw [if_neg h9] at h ⊢
                    split at h
                    · rename_i hc
                      rw [if_pos hc]
                      cases ht : mtab[S.2.1]? with
                      | none => rw [ht] at h; cases h
                      | some t =>
                        rw [ht] at h
                        dsimp only at h ⊢
                        split at h
                        · cases h
                        · rename_i hlen
                          rw [if_neg hlen]
                          cases he : ev n (d - 1) S.2.1 0 (entL t.2.2.1 (st.take (naOf S.1 S.2.2.1)).reverse) [] M with
                          | none => rw [he] at h; cases h
                          | some r1 =>
                            rw [he] at h
                            rw [ih _ _ _ _ _ _ _ he]
                            exact ih _ _ _ _ _ _ _ h
                    · cases h
theorem ev_more {n k d mi pc : Nat} {L : List (Option Value)} {st : List Value} {M : Mem} {r : Option Value × Mem} (h : ev n d mi pc L st M = some r) : ev (n + k) d mi pc L st M = some r := by
  induction k with
  | zero => exact h
  | succ k ih => exact ev_fuel _ _ _ _ _ _ _ _ ih
theorem EV_call {i : Instr} {k : Nat} {S : Nat × Nat × Nat × List Nat} {t : MT} {v : Option Value} {M1 : Mem} (as rest : List Value) (hm : MX mi o ini rt il) (hl : il.lookup pc = some (i, nx)) (hi : invIx i = some k) (hr : isRet i = false) (hS : sites.lookup (o, k) = some S) (hmd : modeI S.1 i = true) (h8 : S.1 ≠ 8) (h9 : S.1 ≠ 9) (hd : 0 < d) (ht : mtab[S.2.1]? = some t) (hlen : as.length = naOf S.1 S.2.2.1) (hml : as.length ≤ t.2.2.1) (hst : st = as.reverse ++ rest) (hca : cat1s as = true) (hcs : catS rest ≤ 8) (hrc : rcvOK S.1 S.2.1 M as = true)
    (he : EV (d - 1) S.2.1 0 (entL t.2.2.1 as) [] M (v, M1)) (kk : EV d mi nx L (v.toList ++ rest) M1 r) : EV d mi pc L st M r := by
  obtain ⟨q, hq, rfl, rfl, rfl, rfl⟩ := hm
  obtain ⟨n1, hn1⟩ := he
  obtain ⟨n2, hn2⟩ := kk
  have h1 : ev (n1 + n2) (d - 1) S.2.1 0 (entL t.2.2.1 as) [] M = some (v, M1) := ev_more hn1
  have h2 : ev (n1 + n2) d mi nx L (v.toList ++ rest) M1 = some r := by rw [Nat.add_comm]; exact ev_more hn2
  have hrl : as.reverse.length = naOf S.1 S.2.2.1 := by rw [List.length_reverse]; exact hlen
  have e1 : st.take (naOf S.1 S.2.2.1) = as.reverse := by rw [hst, ← hrl, List.take_left]
  have e2 : st.drop (naOf S.1 S.2.2.1) = rest := by rw [hst, ← hrl, List.drop_left]
  refine ⟨n1 + n2 + 1, ?_⟩
  unfold ev
  rw [hq]
  dsimp only
  rw [hl]
  dsimp only
  rw [hr, hi]
  dsimp only
  rw [if_neg (by decide), hS]
  dsimp only
  rw [if_neg (by rw [hmd]; exact fun z => z.elim (fun z => by cases z) (fun z => by omega)), if_neg h8, if_neg h9, e1, e2, List.reverse_reverse, if_pos ⟨by rw [hst, List.length_append, hrl]; omega, hca, hcs, hrc⟩, ht]
  dsimp only
  rw [if_neg (by omega), h1]
  exact h2
theorem r_oi {k a : Nat} {S : Nat × Nat × Nat × List Nat} (hm : MX mi o ini rt il) (hl : il.lookup pc = some (.invokespecial k, nx)) (hS : sites.lookup (o, k) = some S) (h8 : S.1 = 8) (hd : 0 < d) (hcs : catS st ≤ 8) (kk : EV d mi nx L st M r) : EV d mi pc L (.ref a :: st) M r := by
  obtain ⟨q, hq, rfl, rfl, rfl, rfl⟩ := hm
  obtain ⟨n, hn⟩ := kk
  refine ⟨n + 1, ?_⟩
  unfold ev
  rw [hq]
  dsimp only
  rw [hl]
  dsimp only
  rw [show isRet (Instr.invokespecial k) = false from rfl, if_neg Bool.false_ne_true, show invIx (Instr.invokespecial k) = some k from rfl]
  dsimp only
  rw [hS]
  dsimp only
  rw [if_neg (by rw [h8]; exact fun z => z.elim (fun z => by cases z) (fun z => by omega)), if_pos h8, if_pos hcs]
  exact hn
theorem r_cp {k a b : Nat} {S : Nat × Nat × Nat × List Nat} {sp dp x : Int32} {kf : Mem → Option β} (hm : MX mi o ini rt il) (hl : il.lookup pc = some (.invokestatic k, nx)) (hS : sites.lookup (o, k) = some S) (h9 : S.1 = 9) (hd : 0 < d) (hcs : catS st ≤ 8) (h : cpA M a sp b dp x kf = some y) (kk : ∀ M', kf M' = some y → EV d mi nx L st M' r) : EV d mi pc L (.int x :: .int dp :: .ref b :: .int sp :: .ref a :: st) M r := by
  obtain ⟨q, hq, rfl, rfl, rfl, rfl⟩ := hm
  unfold cpA at h
  split at h
  · rename_i hc
    obtain ⟨c1, c2, c3, c4, c5, c6, c7⟩ := hc
    obtain ⟨n, hn⟩ := kk _ h
    refine ⟨n + 1, ?_⟩
    unfold ev
    rw [hq]
    dsimp only
    rw [hl]
    dsimp only
    rw [show isRet (Instr.invokestatic k) = false from rfl, if_neg Bool.false_ne_true, show invIx (Instr.invokestatic k) = some k from rfl]
    dsimp only
    rw [hS]
    dsimp only
    rw [if_neg (by rw [h9]; exact fun z => z.elim (fun z => by cases z) (fun z => by omega)), if_neg (by rw [h9]; decide), if_pos h9, if_pos ⟨c1, c2, c3, c4, c5, c6, c7, hcs⟩]
    exact hn
  · cases h
theorem h_cI {x : Option (Int32 × Mem)} {kf : Int32 → Mem → Option β} {G : Prop} (h : cI x kf = some y) (kk : ∀ v M', x = some (v, M') → kf v M' = some y → G) : G := by
  cases x with
  | none => cases h
  | some r => exact kk r.1 r.2 rfl h
theorem h_cR {x : Option (Option Nat × Mem)} {kf : Option Nat → Mem → Option β} {G : Prop} (h : cR x kf = some y) (kk : ∀ v M', x = some (v, M') → kf v M' = some y → G) : G := by
  cases x with
  | none => cases h
  | some r => exact kk r.1 r.2 rfl h
theorem h_cV {x : Option Mem} {kf : Mem → Option β} {G : Prop} (h : cV x kf = some y) (kk : ∀ M', x = some M' → kf M' = some y → G) : G := by
  cases x with
  | none => cases h
  | some r => exact kk r rfl h
theorem h_ck {a c : Nat} {X : Option β} {G : Prop} (h : ck M a c X = some y) (kk : mK M a = c → X = some y → G) : G := by
  unfold ck at h
  split at h
  · rename_i hc
    exact kk hc h
  · cases h
theorem h_nrZ {t : FieldType} {v : Int32} {X : Option β} {G : Prop} (h : nrZ t v X = some y) (kk : narrow t (.int v) = .int v → X = some y → G) : G := by
  unfold nrZ at h
  split at h
  · rename_i hc
    exact kk hc h
  · cases h
theorem h_onR {x : Option Nat} {X : Option β} {Y : Nat → Option β} {G : Option Nat → Prop} (h : onR x X Y = some y) (h1 : X = some y → G none) (h2 : ∀ a, Y a = some y → G (some a)) : G x := by
  cases x with
  | none => exact h1 h
  | some a => exact h2 a h
theorem cat_rfv (o : Option Nat) : (rfv o).category = 1 := by cases o <;> rfl
end ROWS
