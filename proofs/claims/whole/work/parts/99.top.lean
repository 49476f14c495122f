/-! THE CLAIM out of one run of the law in the interpreter -/
def mem0 (X : Nat × (Nat → Int32)) : Mem := (fun _ _ => 0, fun _ _ => 0, fun _ _ => none, fun _ => 0, fun _ => 0, 0, 0, X)
theorem tm_lw {w : Cond} (h : w ∈ tables_1) : w ∈ lw_tbl := List.mem_append_right _ h
def tmOf (k : Nat) : Term := match k with
  | 1 => .static "java/lang/Integer" "DigitOnes" "[B"
  | 2 => .static "java/lang/Integer" "DigitTens" "[B"
  | _ => .field (.string "PipelineSimulator$Reader" 65) "java/lang/String" "value" "[B"
def elOf (k : Nat) (j : Nat) : Cond := Cond.eq (.elem (tmOf k) (.int (Int32.ofNat j))) (.int ((oldB k).getD j 0))
theorem flat_1 : ((flatC (Jvm.Cond.and given_1 narrow_1)).drop 12).take 100 = (List.range 100).map (elOf 1) := by decide +kernel
theorem flat_2 : ((flatC (Jvm.Cond.and given_1 narrow_1)).drop 115).take 100 = (List.range 100).map (elOf 2) := by decide +kernel
theorem flat_4 : ((flatC (Jvm.Cond.and given_1 narrow_1)).drop 261).take 7 = (List.range 7).map (elOf 4) := by decide +kernel
theorem flat_in {p n k j : Nat} {l : List Cond} (h : (l.drop p).take n = (List.range n).map (elOf k)) (hj : j < n) : elOf k j ∈ l := by
  have h1 : elOf k j ∈ (l.drop p).take n := by rw [h]; exact List.mem_map.mpr ⟨j, List.mem_range.mpr hj, rfl⟩
  exact List.mem_of_mem_drop (List.mem_of_mem_take h1)
theorem ws_0 {w : Wp} {X : Nat × (Nat → Int32)} : wsM w (mem0 X) = [] := rfl
theorem ldcsS_is : ∀ q ∈ ldcsS, (oN q.1, q.2) = ("PipelineSimulator$Reader", 65) ∨ (oN q.1, q.2) = ("PipelineSimulator", 307) := by decide +kernel
theorem ia_X0 : Cond.instantiable RX0 7 ∈ XT := hasX_mem (i := 391) (by decide +kernel)
theorem ia_X1 : Cond.instantiable RX1 4 ∈ XT := hasX_mem (i := 500) (by decide +kernel)
theorem ia_X2 : Cond.instantiable RX2 7 ∈ XT := hasX_mem (i := 280) (by decide +kernel)
theorem ia_X3 : Cond.instantiable RX3 3 ∈ XT := hasX_mem (i := 263) (by decide +kernel)
theorem ia_X4 : Cond.instantiable RX4 3 ∈ XT := hasX_mem (i := 238) (by decide +kernel)
theorem ia_X5 : Cond.instantiable RX5 14 ∈ XT := hasX_mem (i := 255) (by decide +kernel)
theorem ia_X6 : Cond.instantiable RX6 2 ∈ XT := hasX_mem (i := 487) (by decide +kernel)
theorem ia_X7 : Cond.instantiable RX7 9 ∈ XT := hasX_mem (i := 133) (by decide +kernel)
theorem ia_X8 : Cond.instantiable RX8 6 ∈ XT := hasX_mem (i := 205) (by decide +kernel)
theorem ia_X9 : Cond.instantiable RX9 4 ∈ XT := hasX_mem (i := 181) (by decide +kernel)
theorem ia_X10 : Cond.instantiable RX10 15 ∈ XT := hasX_mem (i := 175) (by decide +kernel)
theorem ia_X11 : Cond.instantiable RX11 6 ∈ XT := hasX_mem (i := 93) (by decide +kernel)
theorem ia_X12 : Cond.instantiable RX12 81 ∈ XT := hasX_mem (i := 1292) (by decide +kernel)
theorem ia_J4 : Cond.instantiable RJ4 4 ∈ XT := hasX_mem (i := 101) (by decide +kernel)
theorem ao_a : Cond.arrayOver (.object RX0) ∈ XT := hasX_mem (i := 236) (by decide +kernel)
theorem ao_b : Cond.arrayOver (.object RX2) ∈ XT := hasX_mem (i := 261) (by decide +kernel)
theorem ao_c : Cond.arrayOver (.object RX5) ∈ XT := hasX_mem (i := 234) (by decide +kernel)
theorem dig1_start {s : State} {b : Addr} {A : Nat → Prop} (hgv : (Jvm.Cond.and given_1 narrow_1).before #[Value.ref b] s = true) (hts : ∀ w ∈ lw_tbl, w.before #[Value.ref b] s = true) (hA : ∀ a : Nat, a < s.heap.size → ¬ A a) : ∃ t, va_Z "java/lang/Integer" "DigitOnes" "[B" (.ref t) A s s.heap ∧ va_T .byte t 100 (fun j => .int ((oldB 1).getD j 0)) A s s.heap := by
  have hs := flat_of_before _ hgv
  obtain ⟨t, h1, h2⟩ := va_Tof (args := #[Value.ref b]) (tm := .static "java/lang/Integer" "DigitOnes" "[B") (ty := .byte) (N := 100) (f := fun j => .int ((oldB 1).getD j 0)) (by decide) (hs _ (by decide +kernel)) (va_eqt (hs _ (by decide +kernel))) (fun j hj => va_eqt (hs _ (flat_in flat_1 hj))) hA
  exact ⟨t, va_Zof (hts _ (tm_lw (by decide +kernel))) (hts _ (tm_lw (by decide +kernel))) h1 hA, h2⟩
theorem dig2_start {s : State} {b : Addr} {A : Nat → Prop} (hgv : (Jvm.Cond.and given_1 narrow_1).before #[Value.ref b] s = true) (hts : ∀ w ∈ lw_tbl, w.before #[Value.ref b] s = true) (hA : ∀ a : Nat, a < s.heap.size → ¬ A a) : ∃ t, va_Z "java/lang/Integer" "DigitTens" "[B" (.ref t) A s s.heap ∧ va_T .byte t 100 (fun j => .int ((oldB 2).getD j 0)) A s s.heap := by
  have hs := flat_of_before _ hgv
  obtain ⟨t, h1, h2⟩ := va_Tof (args := #[Value.ref b]) (tm := .static "java/lang/Integer" "DigitTens" "[B") (ty := .byte) (N := 100) (f := fun j => .int ((oldB 2).getD j 0)) (by decide) (hs _ (by decide +kernel)) (va_eqt (hs _ (by decide +kernel))) (fun j hj => va_eqt (hs _ (flat_in flat_2 hj))) hA
  exact ⟨t, va_Zof (hts _ (tm_lw (by decide +kernel))) (hts _ (tm_lw (by decide +kernel))) h1 hA, h2⟩
theorem str_start {s : State} {b : Addr} {A : Nat → Prop} (hgv : (Jvm.Cond.and given_1 narrow_1).before #[Value.ref b] s = true) (hts : ∀ w ∈ lw_tbl, w.before #[Value.ref b] s = true) (hA : ∀ a : Nat, a < s.heap.size → ¬ A a) : ∃ k v, va_O "java/lang/String" k A s s.heap ∧ va_OF "java/lang/String" "coder" "B" (.int 0) k A s s.heap ∧ va_OF "java/lang/String" "value" "[B" (.ref v) k A s s.heap ∧ va_T .byte v 7 (fun j => .int ((oldB 4).getD j 0)) A s s.heap ∧ ∀ q ∈ ldcsS, vk_R (oN q.1) q.2 "mfkcsdr" k s := by
  have hs := flat_of_before _ hgv
  obtain ⟨adK, adV, ⟨h1, -⟩, h2⟩ := vk_Sof (args := #[Value.ref b]) (s := s) (N := 1) (tm := fun _ => .string "PipelineSimulator$Reader" 65) (len := [7]) (byt := [oldB 4]) (A := A) (fun i hi => by cases i with
    | zero => decide
    | succ n => omega) (fun i hi => hs _ (by decide +kernel)) (fun i hi => hs _ (by decide +kernel)) (fun i hi => hs _ (by decide +kernel)) (fun i hi => by
      obtain rfl : i = 0 := by omega
      exact hs _ (by decide +kernel)) (fun i hi j hj => by
      obtain rfl : i = 0 := by omega
      exact hs _ (flat_in flat_4 hj)) (fun i j hi hj hne => by omega) hA
  obtain ⟨a1, a2, a3, a4⟩ := h1 0 (by omega)
  have h2 := h2 0 (by omega)
  refine ⟨adK 0, adV 0, a1, a2, a3, a4, fun q hq => ?_⟩
  rcases ldcsS_is q hq with h | h
  · have e1 : oN q.1 = "PipelineSimulator$Reader" := congrArg Prod.fst h
    have e2 : q.2 = 65 := congrArg Prod.snd h
    rw [e1, e2]
    exact vk_R.of (hts _ (tm_lw (by decide +kernel))) h2
  · have e1 : oN q.1 = "PipelineSimulator" := congrArg Prod.fst h
    have e2 : q.2 = 307 := congrArg Prod.snd h
    rw [e1, e2]
    exact vk_R.of (hts _ (tm_lw (by decide +kernel))) (va_eqR (hs (Cond.eq (.string "PipelineSimulator$Reader" 65) (.string "PipelineSimulator" 307)) (by decide +kernel)) h2)
theorem fmt_start {s : State} {b : Addr} {A : Nat → Prop} (hgv : (Jvm.Cond.and given_1 narrow_1).before #[Value.ref b] s = true) (hts : ∀ w ∈ lw_tbl, w.before #[Value.ref b] s = true) (hA : ∀ a : Nat, a < s.heap.size → ¬ A a) : ∃ v : Value, (v = .null ∨ ∃ t, v = .ref t) ∧ va_Z "jdk/internal/util/Preconditions" "SIOOBE_FORMATTER" "Ljava/util/function/BiFunction;" v A s s.heap := by
  have hs := flat_of_before _ hgv
  rcases va_Zqof (args := #[Value.ref b]) (hts _ (tm_lw (by decide +kernel))) (hts _ (tm_lw (by decide +kernel))) (hs (Cond.isRef (.static "jdk/internal/util/Preconditions" "SIOOBE_FORMATTER" "Ljava/util/function/BiFunction;")) (by decide +kernel)) hA with h | ⟨t, h⟩
  · exact ⟨.null, Or.inl rfl, h⟩
  · exact ⟨.ref t, Or.inr ⟨t, rfl⟩, h⟩
theorem arrI_start {s : State} {args : Array Value} {ty : FieldType} (h : (Cond.arrayClass ty).before args s = true) (hp : isReferenceType ty = false) (hra : ∀ c, s.vm.findClass ("[" ++ ty.toString) = some c → va_RA s c ty) : ∃ c : ClassId, ArrOfT s c ty ∧ va_RA s c ty := by
  obtain ⟨c, k, comp, h1, h2, h3⟩ := Cond.arrayClass_spec h
  exact ⟨c, fun N z => ⟨(fun k h => by cases h), k, h2, comp, h3⟩, hra c h1⟩
theorem arrR_start {s : State} {args : Array Value} {C : String} (h : (Cond.arrayOver (.object C)).before args s = true) : ∃ c : ClassId, ArrOfT s c (.object C) ∧ va_RA s c (.object C) := by
  obtain ⟨comp, c, k, h1, h2, h3, h4, h5⟩ := Cond.arrayOver_spec h
  exact ⟨c, fun N z => ⟨(fun k h => by cases h), k, h3, comp, h4⟩, k, comp, h3, h4, h1, h5⟩
theorem known_start {s : State} {args : Array Value} (hts : ∀ w ∈ XT, w.before args s = true) : ∃ (dC : Nat → ClassId) (dI : Nat → Nat → Nat), ∀ (k : Nat) (q : vw_C), classes[k]? = some q → u_Kn s q.1 q.2.1 q.2.2 (dC k) (dI k) := by
  have hA : ∀ w ∈ ALL, w.before args s = true := fun w h => hts w (List.mem_filter.mp h).1
  obtain ⟨c0, i0, h0⟩ := u_known hA cls_0.1 (hts _ ia_X0)
  obtain ⟨c1, i1, h1⟩ := u_known hA cls_1.1 (hts _ ia_X1)
  obtain ⟨c2, i2, h2⟩ := u_known hA cls_2.1 (hts _ ia_X2)
  obtain ⟨c3, i3, h3⟩ := u_known hA cls_3.1 (hts _ ia_X3)
  obtain ⟨c4, i4, h4⟩ := u_known hA cls_4.1 (hts _ ia_X4)
  obtain ⟨c5, i5, h5⟩ := u_known hA cls_5.1 (hts _ ia_X5)
  obtain ⟨c6, i6, h6⟩ := u_known hA cls_6.1 (hts _ ia_X6)
  obtain ⟨c7, i7, h7⟩ := u_known hA cls_7.1 (hts _ ia_X7)
  obtain ⟨c8, i8, h8⟩ := u_known hA cls_8.1 (hts _ ia_X8)
  obtain ⟨c9, i9, h9⟩ := u_known hA cls_9.1 (hts _ ia_X9)
  obtain ⟨c10, i10, h10⟩ := u_known hA cls_10.1 (hts _ ia_X10)
  obtain ⟨c11, i11, h11⟩ := u_known hA cls_11.1 (hts _ ia_X11)
  obtain ⟨c12, i12, h12⟩ := u_known hA cls_12.1 (hts _ ia_X12)
  obtain ⟨c13, i13, h13⟩ := u_known hA cls_13.1 (hts _ ia_J4)
  refine ⟨fun k => ([c0, c1, c2, c3, c4, c5, c6, c7, c8, c9, c10, c11, c12, c13] : List ClassId).getD k 0, fun k => ([i0, i1, i2, i3, i4, i5, i6, i7, i8, i9, i10, i11, i12, i13] : List (Nat → Nat)).getD k (fun _ => 0), fun k q hq => ?_⟩
  match k, hq with
  | 0, hq => cases hq; exact h0
  | 1, hq => cases hq; exact h1
  | 2, hq => cases hq; exact h2
  | 3, hq => cases hq; exact h3
  | 4, hq => cases hq; exact h4
  | 5, hq => cases hq; exact h5
  | 6, hq => cases hq; exact h6
  | 7, hq => cases hq; exact h7
  | 8, hq => cases hq; exact h8
  | 9, hq => cases hq; exact h9
  | 10, hq => cases hq; exact h10
  | 11, hq => cases hq; exact h11
  | 12, hq => cases hq; exact h12
  | 13, hq => cases hq; exact h13
  | k + 14, hq => simp [classes] at hq
/-! THE CLAIM OUT OF ONE WALK OF THE LAW'S BODY. Your part is whole_start (and what it stands on); all else here is the same for every law, but numbers. -/
def R_law : String := "PipelineSimulatorLaw"
def lw_P (b : Addr) (xs : List Int32) (args : Array Value) (s : State) : Prop := args = #[.ref b] ∧ s.IntsAt b xs ∧ xs.length ≤ 2560 ∧ (Jvm.Cond.and given_1 narrow_1).before args s = true
def lw_Q (_ : Array Value) (s : State) (o : Outcome) (t : State) : Prop := o = .returned (some (.int 1)) ∧ Framed s o t [] 600000 7302250
def lw_Z (below : List Frame) (a : Array Value) (s : State) : State → Prop := fun t => ∃ o, t.status = .running ∧ Ended t below o ∧ lw_Q a s o t
/-- the law's own end, with 1 on the stack, nothing written that was there before, its room as the claim has it -/
theorem lw_ret {p : Program} {l : Launch} {e : Jvm.Env} {s : State} {m : MethodId} {below : List Frame} {meth : Method} {c : Code} {b : Nat} (hx : p.tables.exec = Jvm.exec) (hb : c.code = code) (hr : meth.sig.returnType = ret) (hlocks : meth.locks = false) {pc : Nat} {H : Heap} {ls : Array Slot} (hdg : decode code pc = .ok (.ireturn, 1)) : W p l e room_1 s m #[Value.ref b] below meth c H [] 600000 7302250 (lw_Z below #[Value.ref b] s) (F0 m pc ls [.int 1]) := by
  intro T hT X
  obtain ⟨fs, hret, hrun, hended, hW, hframe⟩ := X.leave (v := some (.int 1)) (hlocks := hlocks) (fun h => by rw [hr] at h; cases h)
  have hmeth' : T.vm.method? m = some meth := X.method'
  refine ⟨T.setFrames fs, ?_, .returned (some (.int 1)), hrun, hended, rfl, ⟨_, rfl⟩, hW, hframe⟩
  jvm_step X.here [X.here.top, hx, hb, hdg, hmeth', hr, ret, narrow_b1]
  (try refine ⟨rfl, ?_⟩); (try refine ⟨rfl, ?_⟩)
  first | (intro acts; rw [hret _ acts rfl rfl rfl]) | rw [hret _ _ rfl rfl rfl]
  exact Steps.refl _
/-- what holds at the law's entry: the machine, the code, the tables' words (any of lw_tbl by 'hts w (by decide +kernel)'), the script of L ints xs at the cell b, what the Statement gives of the start (any of its parts by flat_of_before) -/
def lw_At (p : Program) (s : State) (m : MethodId) (meth : Method) (c : Code) (b L : Nat) (xs : Nat → Int32) : Prop :=
  p.tables.exec = Jvm.exec ∧ c.code = code ∧ meth.sig.returnType = ret ∧ c.maxLocals = 4 ∧ s.vm.findClass R_law = some m.cls ∧ (∀ w ∈ lw_tbl, w.before #[Value.ref b] s = true) ∧ va_X b L xs s s.heap ∧ b < s.heap.size ∧ meth.locks = false ∧ (Jvm.Cond.and given_1 narrow_1).before #[Value.ref b] s = true
theorem whole_start {p : Program} {e : Jvm.Env} {s : State} {m : MethodId} {below : List Frame} {meth : Method} {c : Code} (l : Launch) (hflags : l.flags = flags0) {b L : Nat} {xs : Nat → Int32} (hL : L ≤ 2560) (C0 : lw_At p s m meth c b L xs) : W p l e room_1 s m #[Value.ref b] below meth c s.heap [] 0 0 (lw_Z below #[Value.ref b] s) (entryFrame m ([Value.ref b] : List Value).toArray 4) := by
  obtain ⟨hx, hb, hr, hml, hown, hts, hX, hbl, hlocks, hgv⟩ := id C0
  have hxt := xt_hts hts
  have hAll : ∀ w ∈ ALL, w.before #[Value.ref b] s = true := fun w h => hxt w (List.mem_filter.mp h).1
  obtain ⟨dC, dI, hKc⟩ := known_start hxt
  obtain ⟨t0, k0⟩ := arrI_start (hAll _ ac_int) rfl (fun c h => h)
  obtain ⟨t1, k1⟩ := arrI_start (hAll _ ac_byte) rfl (fun c h => h)
  obtain ⟨t2, k2⟩ := arrI_start (hAll _ ac_bool) rfl (fun c h => h)
  obtain ⟨t3, k3⟩ := arrR_start (hxt _ ao_a)
  obtain ⟨t4, k4⟩ := arrR_start (hxt _ ao_b)
  obtain ⟨t5, k5⟩ := arrR_start (hxt _ ao_c)
  have hA : ∀ a : Nat, a < s.heap.size → ¬ (fun q : Nat => s.heap.size ≤ q) a := fun a h => Nat.not_le.mpr h
  obtain ⟨d1, d1Z, d1T⟩ := dig1_start hgv hts hA
  obtain ⟨d2, d2Z, d2T⟩ := dig2_start hgv hts hA
  obtain ⟨sk, sv, s1, s2, s3, s4, s5⟩ := str_start hgv hts hA
  obtain ⟨fv, f1, f2⟩ := fmt_start hgv hts hA
  have hcz : va_Z "java/lang/String" "COMPACT_STRINGS" "Z" (.int 1) (fun q : Nat => s.heap.size ≤ q) s s.heap := va_Zof (args := #[Value.ref b]) (hts _ (tm_lw (by decide +kernel))) (hts _ (tm_lw (by decide +kernel))) (va_eqi (flat_of_before _ hgv _ (by decide +kernel))) hA
  obtain ⟨w, hw⟩ : ∃ w : Wp, w = (s.heap.size, (dC, dI), (fun k => ([t0, t1, t2, t3, t4, t5] : List ClassId).getD (k - 100) 0), (fun k => ([Value.ref b, .ref d1, .ref d2, .ref sk, .ref sv, fv] : List Value).getD k .null)) := ⟨_, rfl⟩
  have hov0 : ∀ k, w.2.2.2 k = .null ∨ ∃ a, w.2.2.2 k = .ref a := by
    intro k
    rw [hw]
    match k with
    | 0 => exact Or.inr ⟨_, rfl⟩
    | 1 => exact Or.inr ⟨_, rfl⟩
    | 2 => exact Or.inr ⟨_, rfl⟩
    | 3 => exact Or.inr ⟨_, rfl⟩
    | 4 => exact Or.inr ⟨_, rfl⟩
    | 5 => exact f1
    | k + 6 => exact Or.inl rfl
  have hK : va_K w.2.1 classes (tysW w) s := by
    rw [hw]
    refine ⟨hKc, fun k q hk => ?_⟩
    match k, hk with
    | 0, hk => cases hk; exact k0
    | 1, hk => cases hk; exact k1
    | 2, hk => cases hk; exact k2
    | 3, hk => cases hk; exact k3
    | 4, hk => cases hk; exact k4
    | 5, hk => cases hk; exact k5
    | k + 6, hk => simp [tysW] at hk
  have hNest : ∀ x ∈ NEST, va_Nw x s := fun x hx => va_Nw.of (nest_on hx) (hxt x (List.mem_filter.mp hx).1)
  have hO : Old w (L, xs) s s.heap := by
    rw [hw]
    exact ⟨⟨b, rfl, hbl, hbl, hX⟩, ⟨d1, rfl, d1Z, d1T⟩, ⟨d2, rfl, d2Z, d2T⟩, hcz, ⟨fv, rfl, f1, f2⟩, ⟨sk, sv, rfl, rfl, s1, s2, s3, s4, s5⟩, hNest, va_AO.of (hxt _ ao_a), va_AO.of (hxt _ ao_b), va_AO.of (hxt _ ao_c)⟩
  have hw1 : w.1 = s.heap.size := by rw [hw]
  have hw0 : w.2.2.2 0 = .ref b := by rw [hw]; rfl
  obtain ⟨n, M1, hev, hn1, hs1⟩ := law_ev (L, xs) hL
  have hC : Ctx w (L, xs) mt_230 p s m #[Value.ref b] meth c := ⟨hx, hb, hr, hml, hown, hAll, hlocks, fun z => by simp [mt_230] at z, hK, hO, by omega, hov0⟩
  have hl := lv_entry ([.ref b]) (n := 4) (Nat.le_of_ble_eq_true rfl)
  rw [lg_entry_eq]
  generalize (lg_sl ([.ref b]) ++ List.replicate (4 - (lg_sl ([.ref b])).length) Slot.unset).toArray = ls at hl ⊢
  have hlv : lvh w ls 4 (entL 4 [.retAddr 0]) := by
    refine ent_lvh (ov_cat hov0) rfl (by decide) ?_
    show lv_has ls 4 (lv_args 0 [w.2.2.2 0])
    rw [hw0]
    exact hl
  have hHp : Hp w (mem0 (L, xs)) s.heap s.heap [] := ⟨(fun k q h => by rw [ws_0] at h; simp at h), ⟨(fun i j p q h => by rw [ws_0] at h; simp at h), (fun k q h => by rw [ws_0] at h; simp at h)⟩, va_S.rf, fun k h => absurd rfl h, fun k j h => by cases h⟩
  refine W.cs (cells' := mn (mem0 (L, xs)) - 0) (slots' := ms (mem0 (L, xs)) - 0) rfl rfl ?_
  refine ev_sound (l := l) hov0 n 40 230 0 (entL 4 [.retAddr 0]) [] (mem0 (L, xs)) (some (.int 1)) M1 mt_230 rfl hev rfl (n0 := 0) (s0 := 0) hC hHp hlv hw1.symm (Nat.le_refl _) (Nat.le_refl _) hn1 hs1 (by decide) (by decide) ?_
  intro H' locs' pc' ls' i nx st' hH' hlo hi ho
  obtain ⟨len, hd, hz⟩ := at_DD (mi := 230) rfl hlo
  have hst : i = .ireturn ∧ st' = [.int 1] := by
    unfold retOK at ho
    split at ho
    · cases ho
    · split at ho
      · cases ho; exact ⟨rfl, rfl⟩
      · cases ho
    · rename_i hrt; cases hrt
    · rename_i hrt; cases hrt
    · cases ho
  obtain ⟨rfl, rfl⟩ := hst
  obtain ⟨rfl, rfl⟩ := hz rfl
  refine W.widen (k := 600000) (n := 7302250) (by omega) (by omega) ?_
  refine va_forget (fun q hq => by have := hH'.2.2.1.2.2 q hq; show s.heap.size ≤ q.base; rw [← hw1]; exact this) ?_
  exact lw_ret hx hb hr hlocks hd
set_option maxHeartbeats 4000000 in
theorem lw_walk (l : Launch) (hflags : l.flags = flags0) (b : Addr) (xs : List Int32) : MetFree l x (headSpec (Jvm.Cond.code x code maxLocals ret :: tables_1) room_1) (lw_P b xs) (fun _ _ _ _ _ => True) lw_Q := by
  refine MetFree.of_bodyS (code := code) (maxLocals := maxLocals) (ret := ret) (by decide) ?_ ?_
  · intro args s m h hn
    obtain ⟨meth, c, h1, h2, h3, h4, h5, h6, -, -⟩ := Cond.code_spec hn (atoms_spec (ws := Jvm.Cond.code x code maxLocals ret :: tables_1) h _ List.mem_cons_self)
    exact ⟨meth, c, h1, h2, h3, h4, h5, h6⟩
  · intro p e s m args below meth c s₁ B hml0 hP _
    obtain ⟨rfl, hx, hbd, hgv⟩ := hP
    obtain ⟨scr, harrAt, hlist, hof, hsmall⟩ := hx
    obtain ⟨hcb, hkn, -, -⟩ := State.arrayAt?_spec harrAt
    have hown : s.vm.findClass R_law = some m.cls := findClass_of_methodNamed B.named
    have hts0 : ∀ c ∈ (Jvm.Cond.code x code maxLocals ret :: tables_1), c.before #[Value.ref b] s = true := atoms_spec (ws := Jvm.Cond.code x code maxLocals ret :: tables_1) B.pre
    have hts : ∀ w ∈ lw_tbl, w.before #[Value.ref b] s = true := k2_hts_sels lw_privs (fun w hw => hts0 w (List.mem_cons_of_mem _ hw)) lw_privs_ok
    have hml : c.maxLocals = 4 := B.maxLocals_eq (hts0 _ List.mem_cons_self)
    have X₀ : Stand p l e room_1 s m #[Value.ref b] below meth c s₁ [] 0 0 := Stand.of_body B
    have hh0 : s₁.heap = s.heap := by rw [B.state]; rfl
    have hsz : scr.slots.size = xs.length := by rw [← Array.length_toList, hlist, List.length_map]
    have hval : ∀ j : Nat, j < xs.length → scr.slots[j]? = some (.int (xs.getD j 0)) := fun j hj => by
      rw [← Array.getElem?_toList, hlist]
      simp [hj]
    have hbl : b < s.heap.size := (Array.getElem?_eq_some_iff.mp hcb).1
    have hX : va_X b xs.length (fun j => xs.getD j 0) s s.heap := ⟨scr, hcb, hof, hkn, hsz, hval⟩
    have K : W p l e room_1 s m #[Value.ref b] below meth c s₁.heap [] 0 0 (lw_Z below #[Value.ref b] s) (entryFrame m ([Value.ref b] : List Value).toArray 4) := by
      rw [hh0]
      exact whole_start l hflags hbd ⟨B.exec, B.bytes, B.returns, hml, hown, hts, hX, hbl, B.notSynchronized, hgv⟩
    obtain ⟨t, a1, o, b1, b2, b3⟩ := K s₁ rfl X₀
    exact ⟨t, o, a1, b1, b2, b3⟩
theorem lw_pre_spec {args : Array Value} {s : State} (h : (Jvm.Cond.and given_1 narrow_1).before args s = true) (hr : rest_1_c.before args s = true) : ∃ (b : Addr) (xs : List Int32), lw_P b xs args s := by
  have hs := flat_of_before _ h
  have hq := flat_of_before _ hr
  have hc : (Cond.count 1).before args s = true := hs _ (by decide +kernel)
  have harr : (Cond.arrayOf (.arg 0) .int).before args s = true := hs _ (by decide +kernel)
  have hle : (Cond.le (.length (.arg 0)) (.int 2560)).before args s = true := hs _ (by decide +kernel)
  have hlen : (Cond.isInt (.length (.arg 0))).before args s = true := hq _ (by decide +kernel)
  have hall : (Cond.all (.arg 0) (.isInt (.elem (.arg 0) (.index 0)))).before args s = true := hq _ (by decide +kernel)
  obtain ⟨b, xs, hb, hx⟩ := State.ints_of_pre rfl harr hlen hall
  have hsm : xs.length < 2 ^ 31 := hx.choose_spec.2.2.2
  have hev : (Term.length (.arg 0)).eval args s none [] s = some (.int xs.length.toInt32) := hx.length_eval hb
  have hv := Cond.le_ints hev (show (Term.int 2560).eval args s none [] s = some (.int 2560) from rfl)
  have hd : xs.length.toInt32 ≤ 2560 := by
    simpa [Cond.before, Cond.holds, hv] using hle
  have hN : xs.length ≤ 2560 := (Int32.ofNat_le_ofNat hsm (by decide)).mp (show Int32.ofNat xs.length ≤ Int32.ofNat 2560 from hd)
  exact ⟨b, xs, Cond.one_arg hc (show args[0]? = some (.ref b) from hb), hx, hN, h⟩
theorem lw_comes (l : Launch) (hflags : l.flags = flags0) : Comes l x (Jvm.Cond.code x code maxLocals ret :: tables_1) room_1 (fun tb e args s => Calls_1 tb e args s ∧ rest_1 tb e args s ∧ Pre_1 tb e args s)
    (fun _ _ args s o t => lw_Q args s o t) := by
  intro p e ha hc hk s m args below hf hfit hheap happ hpre
  obtain ⟨b, xs, hP⟩ := lw_pre_spec hpre.2.2 hpre.2.1
  obtain ⟨k, o, h1, h2, h3, hQ⟩ := lw_walk l hflags b xs p e ha hc hk s m args below hf ((Spec.applies_iff_loose hf).mp happ).1 hP trivial
  exact ⟨k, o, h1, h2, h3, hQ⟩
theorem lw_frame {s t : State} {o : Outcome} {args : Array Value} (h : Framed s o t [] 600000 7302250) :
    Framed s o t (fieldLocs frame_1_writes args s ++ arrayLocs frame_1_arrays args s ++ staticLocs frame_1_statics s) 600000 7302250 := h
theorem lw_limb (L : Cond) (hL : ∀ (args : Array Value) (s t : State), L.after args s (.returned (some (.int 1))) t = true) :
    ArmFor flags0 classFile x code maxLocals ret World_1 tables_1 room_1 Calls_1 rest_1 Pre_1
      (fun tb e a s o t => postC L tb e a s o t ∧ Framed s o t (fieldLocs frame_1_writes a s ++ arrayLocs frame_1_arrays a s ++ staticLocs frame_1_statics s) 600000 7302250) := by
  intro l hflags _ _ p e ha hc hk s m args below hf hfit hheap happ hpre
  obtain ⟨k, o, h1, h2, h3, rfl, hF⟩ := lw_comes l hflags p e ha hc hk s m args below hf hfit hheap happ hpre
  exact ⟨k, _, h1, h2, h3, hL args s _, lw_frame hF⟩
theorem i_vc : Claimed_1_1 ∧ Claimed_1_2 := ⟨lw_limb limb_1_1 (fun args s t => by simp [limb_1_1, Cond.after, Cond.holds, Cond.value]), lw_limb limb_1_2 (fun args s t => Cond.after_iff.mpr (by
  first | (rw [show limb_1_2 = Cond.eq .result (.int 1) from rfl, Cond.eq_ints (x := 1) (y := 1) rfl rfl]; simp; done) | (simp [limb_1_2, Cond.value, Term.eval]; done)))⟩

