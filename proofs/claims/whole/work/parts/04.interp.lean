/-! THE INTERPRETER: an abstract memory with addresses of its own; a step, a run. -/
/-- ints, longs, references, kinds, lengths, how many cells, how many slots, the script -/
abbrev Mem : Type := (Nat → Nat → Int32) × (Nat → Nat → Int64) × (Nat → Nat → Option Nat) × (Nat → Nat) × (Nat → Nat) × Nat × Nat × (Nat × (Nat → Int32))
abbrev mI (M : Mem) : Nat → Nat → Int32 := M.1
abbrev mJ (M : Mem) : Nat → Nat → Int64 := M.2.1
abbrev mR (M : Mem) : Nat → Nat → Option Nat := M.2.2.1
abbrev mK (M : Mem) : Nat → Nat := M.2.2.2.1
abbrev mL (M : Mem) : Nat → Nat := M.2.2.2.2.1
abbrev mn (M : Mem) : Nat := M.2.2.2.2.2.1
abbrev ms (M : Mem) : Nat := M.2.2.2.2.2.2.1
abbrev mX (M : Mem) : Nat × (Nat → Int32) := M.2.2.2.2.2.2.2
def u2 {α : Type} (f : Nat → Nat → α) (k j : Nat) (v : α) : Nat → Nat → α := fun a b => if a = k ∧ b = j then v else f a b
def u1 {α : Type} (f : Nat → α) (k : Nat) (v : α) : Nat → α := fun a => if a = k then v else f a
def r2 {α : Type} (f : Nat → Nat → α) (k : Nat) (g : Nat → α) : Nat → Nat → α := fun a b => if a = k then g b else f a b
def wI (M : Mem) (k j : Nat) (v : Int32) : Mem := (u2 M.1 k j v, M.2)
def wJ (M : Mem) (k j : Nat) (v : Int64) : Mem := (M.1, u2 M.2.1 k j v, M.2.2)
def wR (M : Mem) (k j : Nat) (v : Option Nat) : Mem := (M.1, M.2.1, u2 M.2.2.1 k j v, M.2.2.2)
/-- a row of ints written whole -/
def wA (M : Mem) (k : Nat) (g : Nat → Int32) : Mem := (r2 M.1 k g, M.2)
/-- a new cell of kind kd, of len places -/
def nC (M : Mem) (kd len : Nat) : Mem := (r2 M.1 M.2.2.2.2.2.1 (fun _ => 0), r2 M.2.1 M.2.2.2.2.2.1 (fun _ => 0), r2 M.2.2.1 M.2.2.2.2.2.1 (fun _ => none), u1 M.2.2.2.1 M.2.2.2.2.2.1 kd, u1 M.2.2.2.2.1 M.2.2.2.2.2.1 len, M.2.2.2.2.2.1 + 1, M.2.2.2.2.2.2.1 + len, M.2.2.2.2.2.2.2)
def cN (ci : Nat) : Nat := match classes[ci]? with
  | some r => r.2.2
  | none => 0
def cty (ci j : Nat) : Nat := ((ctab[ci]?).getD []).getD j 0
def ftyOf (ci j : Nat) : FieldType := match classes[ci]? with
  | some r => (parseFieldDescriptor (r.2.1 j).2.2.1).getD .int
  | none => .int
def ffin (ci j : Nat) : Bool := match classes[ci]? with
  | some r => (r.2.1 j).2.2.2
  | none => false
def fdecl (ci j : Nat) : String := match classes[ci]? with
  | some r => (r.2.1 j).1
  | none => ""
-- locals
def lget (L : List (Option Value)) (i : Nat) : Option Value := (L[i]?).join
def lclr (L : List (Option Value)) (i : Nat) : List (Option Value) := match i with
  | 0 => L
  | j + 1 => match lget L j with
    | some w => if w.category = 2 then L.set j none else L
    | none => L
def lset (L : List (Option Value)) (i : Nat) (v : Value) : List (Option Value) := (lclr L i).set i (some v)
def lsetL (L : List (Option Value)) (i : Nat) (v : Value) : List (Option Value) := ((lclr L i).set i (some v)).set (i + 1) none
def isRv : Value → Bool
  | .ref _ => true
  | .null => true
  | .retAddr _ => true
  | _ => false
def jmp (pc : Nat) (off : Int) : Nat := ((pc : Int) + off).toNat
def cndOf : ClassFile.Cond → Int32 → Int32 → Bool
  | .eq, x, y => decide (x = y)
  | .ne, x, y => decide (¬ x = y)
  | .lt, x, y => decide (x < y)
  | .ge, x, y => decide (y ≤ x)
  | .gt, x, y => decide (y < x)
  | .le, x, y => decide (x ≤ y)
abbrev Fr : Type := Nat × List (Option Value) × List Value × Mem
def inR (i : Int32) (n : Nat) : Bool := decide (¬ (i < 0 ∨ n ≤ i.toNatClampNeg))
def rfv (o : Option Nat) : Value := match o with
  | none => .null
  | some a => .ref a
def slotA (M : Mem) (ci a j : Nat) : Value := match cty ci j with
  | 4 => .long (mJ M a j)
  | 5 => rfv (mR M a j)
  | _ => .int (mI M a j)
def statV (k : Nat) : Value := match k with
  | 0 => .int 1
  | 1 => .retAddr 5
  | 2 => .retAddr 1
  | _ => .retAddr 2
def oldB (k : Nat) : List Int32 := match k with
  | 1 => [48, 49, 50, 51, 52, 53, 54, 55, 56, 57, 48, 49, 50, 51, 52, 53, 54, 55, 56, 57, 48, 49, 50, 51, 52, 53, 54, 55, 56, 57, 48, 49, 50, 51, 52, 53, 54, 55, 56, 57, 48, 49, 50, 51, 52, 53, 54, 55, 56, 57, 48, 49, 50, 51, 52, 53, 54, 55, 56, 57, 48, 49, 50, 51, 52, 53, 54, 55, 56, 57, 48, 49, 50, 51, 52, 53, 54, 55, 56, 57, 48, 49, 50, 51, 52, 53, 54, 55, 56, 57, 48, 49, 50, 51, 52, 53, 54, 55, 56, 57]
  | 2 => [48, 48, 48, 48, 48, 48, 48, 48, 48, 48, 49, 49, 49, 49, 49, 49, 49, 49, 49, 49, 50, 50, 50, 50, 50, 50, 50, 50, 50, 50, 51, 51, 51, 51, 51, 51, 51, 51, 51, 51, 52, 52, 52, 52, 52, 52, 52, 52, 52, 52, 53, 53, 53, 53, 53, 53, 53, 53, 53, 53, 54, 54, 54, 54, 54, 54, 54, 54, 54, 54, 55, 55, 55, 55, 55, 55, 55, 55, 55, 55, 56, 56, 56, 56, 56, 56, 56, 56, 56, 56, 57, 57, 57, 57, 57, 57, 57, 57, 57, 57]
  | _ => [109, 102, 107, 99, 115, 100, 114]
def akOf : ArrayType → Nat
  | .int => 100
  | .byte => 101
  | .boolean => 102
  | _ => 0
/-- one instruction that is no call and no return -/
def step1 (o : Nat) (ini : Bool) (i : Instr) (pc nx : Nat) (L : List (Option Value)) (st : List Value) (M : Mem) : Option Fr :=
  match i with
  | .iconst n => some (nx, L, .int (Int32.ofInt n) :: st, M)
  | .bipush n => some (nx, L, .int (Int8.ofInt n).toInt32 :: st, M)
  | .sipush n => some (nx, L, .int (Int16.ofInt n).toInt32 :: st, M)
  | .lconst n => some (nx, L, .long (Int64.ofNat n) :: st, M)
  | .aconst_null => some (nx, L, .null :: st, M)
  | .ldc k => match ldcsI.lookup (o, k) with
    | some v => some (nx, L, .int v.1 :: st, M)
    | none => if ldcsS.contains (o, k) then some (nx, L, .retAddr 3 :: st, M) else none
  | .ldc_w k => match ldcsI.lookup (o, k) with
    | some v => some (nx, L, .int v.1 :: st, M)
    | none => if ldcsS.contains (o, k) then some (nx, L, .retAddr 3 :: st, M) else none
  | .ldc2_w k => match ldcsL.lookup (o, k) with
    | some v => some (nx, L, .long v.1 :: st, M)
    | none => none
  | .iload_n k => match lget L k with
    | some (.int x) => some (nx, L, .int x :: st, M)
    | _ => none
  | .iload k => match lget L k with
    | some (.int x) => some (nx, L, .int x :: st, M)
    | _ => none
  | .lload_n k => match lget L k with
    | some (.long x) => some (nx, L, .long x :: st, M)
    | _ => none
  | .lload k => match lget L k with
    | some (.long x) => some (nx, L, .long x :: st, M)
    | _ => none
  | .aload_n k => match lget L k with
    | some v => if isRv v then some (nx, L, v :: st, M) else none
    | _ => none
  | .aload k => match lget L k with
    | some v => if isRv v then some (nx, L, v :: st, M) else none
    | _ => none
  | .istore_n k => match st with
    | .int x :: st => if (k : Nat) < L.length then some (nx, lset L k (.int x), st, M) else none
    | _ => none
  | .istore k => match st with
    | .int x :: st => if k < L.length then some (nx, lset L k (.int x), st, M) else none
    | _ => none
  | .lstore_n k => match st with
    | .long x :: st => if (k : Nat) + 1 < L.length then some (nx, lsetL L k (.long x), st, M) else none
    | _ => none
  | .lstore k => match st with
    | .long x :: st => if k + 1 < L.length then some (nx, lsetL L k (.long x), st, M) else none
    | _ => none
  | .astore_n k => match st with
    | v :: st => if isRv v && decide ((k : Nat) < L.length) then some (nx, lset L k v, st, M) else none
    | _ => none
  | .astore k => match st with
    | v :: st => if isRv v && decide (k < L.length) then some (nx, lset L k v, st, M) else none
    | _ => none
  | .iinc k n => match lget L k with
    | some (.int x) => if k < L.length ∧ nx = pc + 3 then some (nx, lset L k (.int (x + Int32.ofInt n)), st, M) else none
    | _ => none
  | .iadd => match st with
    | .int y :: .int x :: st => some (nx, L, .int (x + y) :: st, M)
    | _ => none
  | .isub => match st with
    | .int y :: .int x :: st => some (nx, L, .int (x - y) :: st, M)
    | _ => none
  | .imul => match st with
    | .int y :: .int x :: st => some (nx, L, .int (x * y) :: st, M)
    | _ => none
  | .idiv => match st with
    | .int y :: .int x :: st => if y = 0 then none else some (nx, L, .int (x / y) :: st, M)
    | _ => none
  | .irem => match st with
    | .int y :: .int x :: st => if y = 0 then none else some (nx, L, .int (x - x / y * y) :: st, M)
    | _ => none
  | .ineg => match st with
    | .int x :: st => some (nx, L, .int (-x) :: st, M)
    | _ => none
  | .ishl => match st with
    | .int y :: .int x :: st => some (nx, L, .int (x <<< (y &&& 31)) :: st, M)
    | _ => none
  | .ishr => match st with
    | .int y :: .int x :: st => some (nx, L, .int (x >>> (y &&& 31)) :: st, M)
    | _ => none
  | .iushr => match st with
    | .int y :: .int x :: st => some (nx, L, .int (x.toUInt32 >>> (y.toUInt32 &&& Int32.toUInt32 31)).toInt32 :: st, M)
    | _ => none
  | .iand => match st with
    | .int y :: .int x :: st => some (nx, L, .int (x &&& y) :: st, M)
    | _ => none
  | .ior => match st with
    | .int y :: .int x :: st => some (nx, L, .int (x ||| y) :: st, M)
    | _ => none
  | .ixor => match st with
    | .int y :: .int x :: st => some (nx, L, .int (x ^^^ y) :: st, M)
    | _ => none
  | .ladd => match st with
    | .long y :: .long x :: st => some (nx, L, .long (x + y) :: st, M)
    | _ => none
  | .lmul => match st with
    | .long y :: .long x :: st => some (nx, L, .long (x * y) :: st, M)
    | _ => none
  | .lcmp => match st with
    | .long y :: .long x :: st => some (nx, L, .int (lg_cmp x y) :: st, M)
    | _ => none
  | .i2l => match st with
    | .int x :: st => some (nx, L, .long x.toInt64 :: st, M)
    | _ => none
  | .l2i => match st with
    | .long x :: st => some (nx, L, .int x.toInt32 :: st, M)
    | _ => none
  | .i2b => match st with
    | .int x :: st => some (nx, L, .int x.toInt8.toInt32 :: st, M)
    | _ => none
  | .i2c => match st with
    | .int x :: st => some (nx, L, .int (x.toUInt32 % 65536).toInt32 :: st, M)
    | _ => none
  | .dup => match st with
    | v :: st => if v.category = 1 then some (nx, L, v :: v :: st, M) else none
    | _ => none
  | .dup_x1 => match st with
    | v :: w :: st => if v.category = 1 ∧ w.category = 1 then some (nx, L, v :: w :: v :: st, M) else none
    | _ => none
  | .dup2 => match st with
    | v :: w :: st => if v.category = 1 ∧ w.category = 1 then some (nx, L, v :: w :: v :: w :: st, M) else none
    | _ => none
  | .pop => match st with
    | v :: st => if v.category = 1 then some (nx, L, st, M) else none
    | _ => none
  | .goto off => if 0 ≤ (pc : Int) + off then some (jmp pc off, L, st, M) else none
  | .ifCond c off => match st with
    | .int x :: st => if 0 ≤ (pc : Int) + off then (if cndOf c x 0 then some (jmp pc off, L, st, M) else some (nx, L, st, M)) else none
    | _ => none
  | .if_icmp c off => match st with
    | .int y :: .int x :: st => if 0 ≤ (pc : Int) + off then (if cndOf c x y then some (jmp pc off, L, st, M) else some (nx, L, st, M)) else none
    | _ => none
  | .ifnull off => match st with
    | .null :: st => if 0 ≤ (pc : Int) + off then some (jmp pc off, L, st, M) else none
    | .ref _ :: st => some (nx, L, st, M)
    | _ => none
  | .ifnonnull off => match st with
    | .null :: st => some (nx, L, st, M)
    | .ref _ :: st => if 0 ≤ (pc : Int) + off then some (jmp pc off, L, st, M) else none
    | _ => none
  | .tableswitch dflt lo hi offs => match st with
    | .int x :: st => if x.toInt < lo ∨ hi < x.toInt then (if 0 ≤ (pc : Int) + dflt then some (jmp pc dflt, L, st, M) else none)
      else match offs[(x.toInt - lo).toNat]? with
        | some off => if 0 ≤ (pc : Int) + off then some (jmp pc off, L, st, M) else none
        | none => none
    | _ => none
  | .lookupswitch dflt ps => match st with
    | .int x :: st => if (ps.toList.zip (ps.toList.drop 1)).all (fun (a, next) => a.1 < next.1) = true ∧ 0 ≤ (pc : Int) + Op.lookupswitch.offset ps.toList dflt x.toInt then some (jmp pc (Op.lookupswitch.offset ps.toList dflt x.toInt), L, st, M) else none
    | _ => none
  | .getfield k => match st with
    | .ref a :: st => match flds.lookup (o, k) with
      | some f => if mK M a = f.1 + 1 then some (nx, L, slotA M f.1 a f.2.1 :: st, M) else none
      | none => none
    | .retAddr 3 :: st => match sflds.lookup (o, k) with
      | some f => some (nx, L, (if f.1 = 0 then .retAddr 4 else .int 0) :: st, M)
      | none => none
    | _ => none
  | .putfield k => match st with
    | v :: .ref a :: st => match flds.lookup (o, k) with
      | some f => if mK M a = f.1 + 1 ∧ (ffin f.1 f.2.1 = false ∨ (ini = true ∧ f.2.2.1 = 0 ∧ fdecl f.1 f.2.1 = oN o)) then (match cty f.1 f.2.1, v with
          | 0, .int x => some (nx, L, st, wI M a f.2.1 x)
          | 1, .int x => if vp_nar .boolean x = x ∧ fits .boolean (.int x) = true then some (nx, L, st, wI M a f.2.1 x) else none
          | 2, .int x => if vp_nar .byte x = x ∧ fits .byte (.int x) = true then some (nx, L, st, wI M a f.2.1 x) else none
          | 4, .long x => some (nx, L, st, wJ M a f.2.1 x)
          | 5, .ref b => some (nx, L, st, wR M a f.2.1 (some b))
          | _, _ => none) else none
      | none => none
    | _ => none
  | .getstatic k => match stats.lookup (o, k) with
    | some f => some (nx, L, statV f.1 :: st, M)
    | none => none
  | .iaload => match st with
    | .int j :: .ref a :: st => if mK M a = 100 ∧ inR j (mL M a) = true then some (nx, L, .int (mI M a j.toNatClampNeg) :: st, M) else none
    | .int j :: .retAddr 0 :: st => if inR j (mX M).1 = true then some (nx, L, .int ((mX M).2 j.toNatClampNeg) :: st, M) else none
    | _ => none
  | .iastore => match st with
    | .int x :: .int j :: .ref a :: st => if mK M a = 100 ∧ inR j (mL M a) = true then some (nx, L, st, wI M a j.toNatClampNeg x) else none
    | _ => none
  | .baload => match st with
    | .int j :: .ref a :: st => if (mK M a = 101 ∨ mK M a = 102) ∧ inR j (mL M a) = true then some (nx, L, .int (mI M a j.toNatClampNeg) :: st, M) else none
    | .int j :: .retAddr k :: st => if (k = 1 ∨ k = 2 ∨ k = 4) ∧ inR j (oldB k).length = true then some (nx, L, .int ((oldB k).getD j.toNatClampNeg 0) :: st, M) else none
    | _ => none
  | .bastore => match st with
    | .int x :: .int j :: .ref a :: st => if inR j (mL M a) = true then (if mK M a = 101 then some (nx, L, st, wI M a j.toNatClampNeg (vp_nar .byte x)) else if mK M a = 102 then some (nx, L, st, wI M a j.toNatClampNeg (vp_nar .boolean x)) else none) else none
    | _ => none
  | .aaload => match st with
    | .int j :: .ref a :: st => if (mK M a = 103 ∨ mK M a = 104 ∨ mK M a = 105) ∧ inR j (mL M a) = true then some (nx, L, rfv (mR M a j.toNatClampNeg) :: st, M) else none
    | _ => none
  | .aastore => match st with
    | .ref b :: .int j :: .ref a :: st => if ((mK M a = 103 ∧ mK M b = 1) ∨ (mK M a = 104 ∧ mK M b = 3) ∨ (mK M a = 105 ∧ mK M b = 6)) ∧ inR j (mL M a) = true then some (nx, L, st, wR M a j.toNatClampNeg (some b)) else none
    | _ => none
  | .arraylength => match st with
    | .ref a :: st => if 100 ≤ mK M a ∧ mK M a < 106 then some (nx, L, .int (Int32.ofNat (mL M a)) :: st, M) else none
    | .retAddr k :: st => if k = 0 then some (nx, L, .int (Int32.ofNat (mX M).1) :: st, M) else if k = 4 then some (nx, L, .int 7 :: st, M) else none
    | _ => none
  | .new k => match news.lookup (o, k) with
    | some f => some (nx, L, .ref (mn M) :: st, nC M (f.1 + 1) (cN f.1))
    | none => none
  | .newarray t => match st with
    | .int x :: st => if ¬ x < 0 ∧ x.toNatClampNeg ≤ 1000000 ∧ (akOf t) ≠ 0 then some (nx, L, .ref (mn M) :: st, nC M (akOf t) x.toNatClampNeg) else none
    | _ => none
  | .anewarray k => match st with
    | .int x :: st => match anews.lookup (o, k) with
      | some f => if ¬ x < 0 ∧ x.toNatClampNeg ≤ 1000000 then some (nx, L, .ref (mn M) :: st, nC M f.1 x.toNatClampNeg) else none
      | none => none
    | _ => none
  | _ => none
def naOf (mode n : Nat) : Nat := match mode with
  | 0 => n
  | 5 => n
  | _ => n + 1
def cat1s (vs : List Value) : Bool := vs.all (fun v => decide (v.category = 1))
/-- the receiver that a call of this kind wants -/
def rcvOK (mode ti : Nat) (M : Mem) (as : List Value) : Bool := match mode, as with
  | 0, _ => true
  | 5, _ => true
  | 1, .ref b :: _ => match mtabL[ti]? with
    | some q => match classes[mK M b - 1]? with
      | some r => decide (r.1 = q.1.cls ∧ mK M b ≠ 0)
      | none => false
    | none => false
  | 2, .ref _ :: _ => true
  | 6, .ref _ :: _ => true
  | 3, .ref b :: _ => decide (mK M b = 14)
  | 4, .ref b :: _ => decide (mK M b = 14)
  | 7, .retAddr 3 :: _ => true
  | _, _ => false
def retOK (t : Option FieldType) (i : Instr) (st : List Value) : Option (Option Value) := match i, t, st with
  | .return_, none, [] => some none
  | .ireturn, some t, [.int x] => if t = .int ∨ ((t = .boolean ∨ t = .char ∨ t = .byte) ∧ narrow t (.int x) = .int x) then some (some (.int x)) else none
  | .areturn, some (.object _), [v] => match v with
    | .ref a => some (some (.ref a))
    | .null => some (some .null)
    | _ => none
  | .areturn, some (.array _), [v] => match v with
    | .ref a => some (some (.ref a))
    | .null => some (some .null)
    | _ => none
  | _, _, _ => none
def isRet : Instr → Bool
  | .return_ => true
  | .ireturn => true
  | .areturn => true
  | _ => false
def invIx : Instr → Option Nat
  | .invokevirtual k => some k
  | .invokespecial k => some k
  | .invokestatic k => some k
  | _ => none
/-- which instruction a call of this kind is -/
def modeI (mode : Nat) (i : Instr) : Bool := match mode, i with
  | 0, .invokestatic _ => true
  | 5, .invokestatic _ => true
  | 9, .invokestatic _ => true
  | 1, .invokevirtual _ => true
  | 3, .invokevirtual _ => true
  | 7, .invokevirtual _ => true
  | 2, .invokespecial _ => true
  | 4, .invokespecial _ => true
  | 6, .invokespecial _ => true
  | 8, .invokespecial _ => true
  | _, _ => false
def catS (vs : List Value) : Nat := (vs.map fun v => v.category).sum
def entL (mL : Nat) (as : List Value) : List (Option Value) := as.map some ++ List.replicate (mL - as.length) none
/-- a run: of method mi from pc on, d levels deep at most, to its return -/
def ev : Nat → Nat → Nat → Nat → List (Option Value) → List Value → Mem → Option (Option Value × Mem)
  | 0, _, _, _, _, _, _ => none
  | n + 1, d, mi, pc, L, st, M =>
    match mtabL[mi]? with
    | none => none
    | some q =>
      match q.2.2.2.2.2.lookup pc with
      | none => none
      | some (i, nx) =>
        if isRet i then (retOK q.2.2.2.1 i st).map (fun v => (v, M)) else
        match invIx i with
        | some k =>
          match sites.lookup (q.2.2.2.2.1, k) with
          | none => none
          | some S =>
            if modeI S.1 i = false ∨ d = 0 then none else
            if S.1 = 8 then
              match st with
              | .ref _ :: rest => if catS rest ≤ 8 then ev n d mi nx L rest M else none
              | _ => none
            else if S.1 = 9 then
              match st with
              | .int w :: .int dp :: .ref b :: .int sp :: .ref a :: rest => if (mK M a = 100 ∨ mK M a = 101) ∧ mK M b = mK M a ∧ ¬ sp < 0 ∧ ¬ dp < 0 ∧ ¬ w < 0 ∧ sp.toNatClampNeg + w.toNatClampNeg ≤ mL M a ∧ dp.toNatClampNeg + w.toNatClampNeg ≤ mL M b ∧ catS rest ≤ 8 then
                  ev n d mi nx L rest (wA M b (va_cpy (mI M a) (mI M b) sp.toNatClampNeg dp.toNatClampNeg w.toNatClampNeg)) else none
              | _ => none
            else
              let na := naOf S.1 S.2.2.1
              let as := (st.take na).reverse
              let rest := st.drop na
              if na ≤ st.length ∧ cat1s as = true ∧ catS rest ≤ 8 ∧ rcvOK S.1 S.2.1 M as = true then
                match mtab[S.2.1]? with
                | none => none
                | some t =>
                  if t.2.2.1 < as.length then none else
                  match ev n (d - 1) S.2.1 0 (entL t.2.2.1 as) [] M with
                  | none => none
                  | some (v, M1) => ev n d mi nx L (v.toList ++ rest) M1
              else none
        | none => match step1 q.2.2.2.2.1 (decide (q.1.name = "<init>")) i pc nx L st M with
          | none => none
          | some f => ev n d mi f.1 f.2.1 f.2.2.1 f.2.2.2
/-- there is such a run -/
def EV (d mi pc : Nat) (L : List (Option Value)) (st : List Value) (M : Mem) (r : Option Value × Mem) : Prop := ∃ n, ev n d mi pc L st M = some r
