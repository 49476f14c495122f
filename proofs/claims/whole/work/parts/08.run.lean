/-! A RUN of the interpreter is a run of the machine -/
section DISP
variable {w : Wp} {X : Nat × (Nat → Int32)} {q : MT} {p : Program} {l : Launch} {e : Env} {R : Room} {s : State} {m : MethodId} {args : Array Value} {below : List Frame} {meth : Method} {c : Code} {H : Heap} {locs : List Loc} {Q : State → Prop} {M : Mem} {L : List (Option Value)} {ls : Array Slot} {pc nx n0 s0 : Nat} {f : Fr}
theorem step_all {st : List Value} {i : Instr} (hd : DD q i pc nx) (h : step1 q.2.2.2.2.1 (decide (q.1.name = "<init>")) i pc nx L st M = some f) (C0 : Ctx w X q p s m args meth c) (hH : Hp w M s.heap H locs) (hl : lvh w ls q.2.2.1 L) (hX : mX M = X) (hsb : s.heap.size = w.1 + n0) (hn0 : n0 ≤ mn M) (hs0 : s0 ≤ ms M) (hc : mn f.2.2.2 - n0 ≤ R.cells) (hs : ms f.2.2.2 - s0 ≤ R.slots) (kk : KK w X q p l e R s m args below meth c Q n0 s0 f) : GG w p l e R s m args below meth c Q H locs M n0 s0 pc ls st := by
  cases i with
  | iconst k => exact s_iconst hd h C0 hH hl hX hn0 hs0 hc hs kk
  | bipush k => exact s_bipush hd h C0 hH hl hX hn0 hs0 hc hs kk
  | sipush k => exact s_sipush hd h C0 hH hl hX hn0 hs0 hc hs kk
  | lconst k => exact s_lconst hd h C0 hH hl hX hn0 hs0 hc hs kk
  | aconst_null  => exact s_aconst_null hd h C0 hH hl hX hn0 hs0 hc hs kk
  | iload_n k => exact s_iload_n hd h C0 hH hl hX hn0 hs0 hc hs kk
  | iload k => exact s_iload hd h C0 hH hl hX hn0 hs0 hc hs kk
  | lload_n k => exact s_lload_n hd h C0 hH hl hX hn0 hs0 hc hs kk
  | lload k => exact s_lload hd h C0 hH hl hX hn0 hs0 hc hs kk
  | aload_n k => exact s_aload_n hd h C0 hH hl hX hn0 hs0 hc hs kk
  | aload k => exact s_aload hd h C0 hH hl hX hn0 hs0 hc hs kk
  | istore_n k => exact s_istore_n hd h C0 hH hl hX hn0 hs0 hc hs kk
  | istore k => exact s_istore hd h C0 hH hl hX hn0 hs0 hc hs kk
  | lstore_n k => exact s_lstore_n hd h C0 hH hl hX hn0 hs0 hc hs kk
  | lstore k => exact s_lstore hd h C0 hH hl hX hn0 hs0 hc hs kk
  | astore_n k => exact s_astore_n hd h C0 hH hl hX hn0 hs0 hc hs kk
  | astore k => exact s_astore hd h C0 hH hl hX hn0 hs0 hc hs kk
  | iinc k n => exact s_iinc hd h C0 hH hl hX hn0 hs0 hc hs kk
  | iadd  => exact s_iadd hd h C0 hH hl hX hn0 hs0 hc hs kk
  | isub  => exact s_isub hd h C0 hH hl hX hn0 hs0 hc hs kk
  | imul  => exact s_imul hd h C0 hH hl hX hn0 hs0 hc hs kk
  | ishl  => exact s_ishl hd h C0 hH hl hX hn0 hs0 hc hs kk
  | ishr  => exact s_ishr hd h C0 hH hl hX hn0 hs0 hc hs kk
  | iand  => exact s_iand hd h C0 hH hl hX hn0 hs0 hc hs kk
  | ior  => exact s_ior hd h C0 hH hl hX hn0 hs0 hc hs kk
  | ixor  => exact s_ixor hd h C0 hH hl hX hn0 hs0 hc hs kk
  | ladd  => exact s_ladd hd h C0 hH hl hX hn0 hs0 hc hs kk
  | lmul  => exact s_lmul hd h C0 hH hl hX hn0 hs0 hc hs kk
  | idiv  => exact s_idiv hd h C0 hH hl hX hn0 hs0 hc hs kk
  | irem  => exact s_irem hd h C0 hH hl hX hn0 hs0 hc hs kk
  | ineg  => exact s_ineg hd h C0 hH hl hX hn0 hs0 hc hs kk
  | iushr  => exact s_iushr hd h C0 hH hl hX hn0 hs0 hc hs kk
  | i2l  => exact s_i2l hd h C0 hH hl hX hn0 hs0 hc hs kk
  | l2i  => exact s_l2i hd h C0 hH hl hX hn0 hs0 hc hs kk
  | i2b  => exact s_i2b hd h C0 hH hl hX hn0 hs0 hc hs kk
  | i2c  => exact s_i2c hd h C0 hH hl hX hn0 hs0 hc hs kk
  | lcmp  => exact s_lcmp hd h C0 hH hl hX hn0 hs0 hc hs kk
  | dup  => exact s_dup hd h C0 hH hl hX hn0 hs0 hc hs kk
  | pop  => exact s_pop hd h C0 hH hl hX hn0 hs0 hc hs kk
  | dup_x1  => exact s_dup_x1 hd h C0 hH hl hX hn0 hs0 hc hs kk
  | dup2  => exact s_dup2 hd h C0 hH hl hX hn0 hs0 hc hs kk
  | goto off => exact s_goto hd h C0 hH hl hX hn0 hs0 hc hs kk
  | ifCond cd off => exact s_ifCond hd h C0 hH hl hX hn0 hs0 hc hs kk
  | if_icmp cd off => exact s_if_icmp hd h C0 hH hl hX hn0 hs0 hc hs kk
  | ifnull off => exact s_ifnull hd h C0 hH hl hX hn0 hs0 hc hs kk
  | ifnonnull off => exact s_ifnonnull hd h C0 hH hl hX hn0 hs0 hc hs kk
  | tableswitch dflt lo hi offs => exact s_tableswitch hd h C0 hH hl hX hn0 hs0 hc hs kk
  | lookupswitch dflt ps => exact s_lookupswitch hd h C0 hH hl hX hn0 hs0 hc hs kk
  | ldc_w k => exact s_ldc_w hd h C0 hH hl hX hn0 hs0 hc hs kk
  | ldc k => exact s_ldc hd h C0 hH hl hX hn0 hs0 hc hs kk
  | ldc2_w k => exact s_ldc2_w hd h C0 hH hl hX hn0 hs0 hc hs kk
  | getfield k => exact s_getfield hd h C0 hH hl hX hn0 hs0 hc hs kk
  | putfield k => exact s_putfield hd h C0 hH hl hX hn0 hs0 hc hs kk
  | getstatic k => exact s_getstatic hd h C0 hH hl hX hn0 hs0 hc hs kk
  | iaload  => exact s_iaload hd h C0 hH hl hX hn0 hs0 hc hs kk
  | iastore  => exact s_iastore hd h C0 hH hl hX hn0 hs0 hc hs kk
  | baload  => exact s_baload hd h C0 hH hl hX hn0 hs0 hc hs kk
  | bastore  => exact s_bastore hd h C0 hH hl hX hn0 hs0 hc hs kk
  | aaload  => exact s_aaload hd h C0 hH hl hX hn0 hs0 hc hs kk
  | aastore  => exact s_aastore hd h C0 hH hl hX hn0 hs0 hc hs kk
  | arraylength  => exact s_arraylength hd h C0 hH hl hX hn0 hs0 hc hs kk
  | new k => exact s_new hd h C0 hH hl hX hsb hn0 hs0 hc hs kk
  | newarray t => exact s_newarray hd h C0 hH hl hX hsb hn0 hs0 hc hs kk
  | anewarray k => exact s_anewarray hd h C0 hH hl hX hsb hn0 hs0 hc hs kk
  | _ => unfold step1 at h; cases h
end DISP
theorem step_mono {o : Nat} {ini : Bool} {i : Instr} {pc nx : Nat} {L : List (Option Value)} {st : List Value} {M : Mem} {f : Fr} (h : step1 o ini i pc nx L st M = some f) : mX f.2.2.2 = mX M ∧ mn M ≤ mn f.2.2.2 ∧ ms M ≤ ms f.2.2.2 := by
  unfold step1 at h
  repeat' split at h
  all_goals first | (cases h; done) | (cases h; refine ⟨rfl, ?_, ?_⟩ <;> first | exact Nat.le_refl _ | exact Nat.le_succ _ | exact Nat.le_add_right _ _)
theorem ev_mono : ∀ (n d mi pc : Nat) (L : List (Option Value)) (st : List Value) (M : Mem) (r : Option Value × Mem), ev n d mi pc L st M = some r → mX r.2 = mX M ∧ mn M ≤ mn r.2 ∧ ms M ≤ ms r.2 := by
  intro n
  induction n with
  | zero => intro d mi pc L st M r h; cases h
  | succ n ih =>
    intro d mi pc L st M r h
    unfold ev at h
    split at h
    · cases h
    · split at h
      · cases h
      · split at h
        · rename_i i nx _ _
          cases hr : retOK _ i st with
          | none => rw [hr] at h; cases h
          | some v => rw [hr] at h; cases h; exact ⟨rfl, Nat.le_refl _, Nat.le_refl _⟩
        · split at h
          · split at h
            · cases h
            · split at h
              · cases h
              · split at h
                · split at h
                  · split at h
                    · exact ih _ _ _ _ _ _ _ h
                    · cases h
                  · cases h
                · split at h
                  · split at h
                    · split at h
                      · have h2 := ih _ _ _ _ _ _ _ h
                        exact h2
                      · cases h
                    · cases h
                  · dsimp only at h
                    split at h
                    · split at h
                      · cases h
                      · split at h
                        · cases h
                        · split at h
                          · cases h
                          · rename_i v M1 h1
                            obtain ⟨a1, a2, a3⟩ := ih _ _ _ _ _ _ _ h1
                            obtain ⟨b1, b2, b3⟩ := ih _ _ _ _ _ _ _ h
                            exact ⟨b1.trans a1, Nat.le_trans a2 b2, Nat.le_trans a3 b3⟩
                    · cases h
          · split at h
            · cases h
            · rename_i f hf
              obtain ⟨a1, a2, a3⟩ := step_mono hf
              obtain ⟨b1, b2, b3⟩ := ih _ _ _ _ _ _ _ h
              exact ⟨b1.trans a1, Nat.le_trans a2 b2, Nat.le_trans a3 b3⟩
def lenOK (q : MT) : Bool := q.2.2.2.2.2.all (fun e => isSw e.2.1 || decide (e.2.2 = e.1 + ilen e.2.1))
theorem len_all : mtabL.all lenOK = true := by decide +kernel
theorem at_DD {mi pc nx : Nat} {q : MT} {i : Instr} (hq : mtabL[mi]? = some q) (h : q.2.2.2.2.2.lookup pc = some (i, nx)) : DD q i pc nx := by
  have hm := List.mem_of_getElem? hq
  have hi := look_mem h
  have h1 := List.all_eq_true.mp (mtabL_ok q hm).1 _ hi
  have h2 := List.all_eq_true.mp (List.all_eq_true.mp len_all q hm) _ hi
  dsimp only at h1 h2
  refine ⟨nx - pc, of_decide_eq_true h1, fun hs => ?_⟩
  rw [hs, Bool.false_or, decide_eq_true_eq] at h2
  exact ⟨by omega, h2⟩
/-- what a method leaves -/
def CQ (w : Wp) (v : Option Value) (M1 : Mem) : Array Value → State → Outcome → State → Prop := fun _ st o t => o = .returned (v.map (cv w)) ∧ (va_P w.2.1 classes (wsM w M1) t.heap ∧ va_D (wA0 w) (wsM w M1) ∧ (∀ k, mK M1 k ≠ 0 → k < mn M1) ∧ (∀ k j, mK M1 k = 101 → fits .byte (.int (mI M1 k j)) = true)) ∧ va_F (wA0 w) st t
/-- what a method finds -/
def CP (w : Wp) (X : Nat × (Nat → Int32)) (as : List Value) (M : Mem) : Array Value → State → Prop := fun a U => a = (as.map (cv w)).toArray ∧ (va_P w.2.1 classes (wsM w M) U.heap ∧ va_D (wA0 w) (wsM w M) ∧ (∀ k, mK M k ≠ 0 → k < mn M) ∧ (∀ k j, mK M k = 101 → fits .byte (.int (mI M k j)) = true)) ∧ U.heap.size = w.1 + mn M ∧ va_K w.2.1 classes (tysW w) U ∧ Old w X U U.heap
theorem CP_blind {w : Wp} {X : Nat × (Nat → Int32)} {as : List Value} {M : Mem} : FrameBlind (CP w X as M) := fun a U g mk h =>
  ⟨h.1, h.2.1, h.2.2.1, va_K.moved (u := U) (U := U.calling g mk a) (Vm.Alike.refl U.vm) h.2.2.2.1, Old.same (s := U) (U := U.calling g mk a) h.2.2.2.2 rfl⟩
theorem sl_one : ∀ (vs : List Value), cat1s vs = true → (lg_sl vs).length = vs.length
  | [], _ => rfl
  | v :: vs, h => by
    unfold cat1s at h
    rw [List.all_cons, Bool.and_eq_true, decide_eq_true_eq] at h
    have := sl_one vs h.2
    simp only [lg_sl, List.flatMap_cons, List.length_append, List.length_cons] at this ⊢
    rw [if_neg (by omega)]
    simp only [List.length_cons, List.length_nil]
    omega
theorem args_one : ∀ (vs : List Value) (k i : Nat) (v : Value), cat1s vs = true → vs[i]? = some v → (k + i, v) ∈ lv_args k vs
  | [], _, _, _, _, h => by simp at h
  | u :: vs, k, i, v, hc, h => by
    unfold cat1s at hc
    rw [List.all_cons, Bool.and_eq_true, decide_eq_true_eq] at hc
    cases i with
    | zero =>
      rw [List.getElem?_cons_zero] at h
      cases h
      exact List.mem_cons_self
    | succ i =>
      rw [List.getElem?_cons_succ] at h
      refine List.mem_cons_of_mem _ ?_
      rw [if_neg (by omega)]
      have := args_one vs (k + 1) i v hc.2 h
      rwa [show k + (i + 1) = k + 1 + i by omega]
theorem cat_cv {w : Wp} (ho : ∀ k, (w.2.2.2 k).category = 1) {vs : List Value} (h : cat1s vs = true) : cat1s (vs.map (cv w)) = true := by
  unfold cat1s at h ⊢
  rw [List.all_map]
  rw [List.all_eq_true] at h ⊢
  intro v hv
  have := h v hv
  show decide ((cv w v).category = 1) = true
  rw [cv_cat ho]
  exact this
theorem ent_lvh {w : Wp} (ho : ∀ k, (w.2.2.2 k).category = 1) {as : List Value} {nL : Nat} {ls : Array Slot} (hc : cat1s as = true) (hn : as.length ≤ nL) (h : lv_has ls nL (lv_args 0 (as.map (cv w)))) : lvh w ls nL (entL nL as) := by
  refine ⟨h.1, h.2.1, ?_, fun i v hv => ?_⟩
  · unfold entL
    rw [List.length_append, List.length_map, List.length_replicate]
    omega
  · unfold lget entL at hv
    by_cases hi : i < as.length
    · rw [List.getElem?_append_left (by rw [List.length_map]; exact hi), List.getElem?_map] at hv
      have hv2 : as[i]? = some v := by
        cases ha : as[i]? with
        | none => rw [ha] at hv; cases hv
        | some u => rw [ha] at hv; cases hv; rfl
      have h2 := args_one (as.map (cv w)) 0 i (cv w v) (cat_cv ho hc) (by rw [List.getElem?_map, hv2]; rfl)
      rw [Nat.zero_add] at h2
      exact h.2.2 _ h2
    · rw [List.getElem?_append_right (by rw [List.length_map]; omega), List.length_map] at hv
      rcases Nat.lt_or_ge (i - as.length) (nL - as.length) with q | q
      · rw [List.getElem?_replicate, if_pos q] at hv
        cases hv
      · rw [List.getElem?_eq_none (by rw [List.length_replicate]; exact q)] at hv
        cases hv
theorem catS_cv {w : Wp} (ho : ∀ k, (w.2.2.2 k).category = 1) (vs : List Value) : ((vs.map (cv w)).map fun v => v.category).sum = catS vs := by
  unfold catS
  congr 1
  rw [List.map_map]
  apply List.map_congr_left
  intro v _
  exact cv_cat ho v
section CALL
variable {w : Wp} {X : Nat × (Nat → Int32)} {q : MT} {p : Program} {l : Launch} {e : Env} {R : Room} {s : State} {m : MethodId} {args : Array Value} {below : List Frame} {meth : Method} {c : Code} {H : Heap} {locs : List Loc} {Q : State → Prop} {M M1 : Mem} {ls : Array Slot} {pc n0 s0 : Nat}
theorem call_go {v : Option Value} {a : Array Value} {cells slots mc ms' : Nat} {st0 rest : List Value} (hr : va_Run p l e R s m args below meth c H locs cells slots mc ms' (F0 m pc ls st0) rest (CQ w v M1 a) (wA0 w)) (hS : va_S (wA0 w) s.heap H locs)
    (kk : ∀ (H1 : Heap) (locs1 : List Loc), Hp w M1 s.heap H1 locs1 → W p l e R s m args below meth c H1 locs1 (cells + mc) (slots + ms') Q (F0 m (pc + 3) ls ((v.map (cv w)).toList ++ rest))) : W p l e R s m args below meth c H locs cells slots Q (F0 m pc ls st0) := by
  intro T hT Y
  obtain ⟨v', st₀, t, T', L, h0, X', hL, e1, e2, ⟨hv, ⟨q1, q2, q3, q4⟩, hz, hk⟩, st⟩ := hr T hT Y
  cases hv
  rw [h0] at hz hk
  obtain ⟨t2, a1, b1⟩ := kk T'.heap (locs ++ L) ⟨by rw [e1]; exact q1, q2, ⟨Nat.le_trans hS.1 (by rw [e1]; exact hz), fun x h1 h2 => by rw [e1, hk x (Nat.lt_of_lt_of_le h1 hS.1) h2]; exact hS.2.1 x h1 h2, fun x hx => by
      rcases List.mem_append.mp hx with h | h
      · exact hS.2.2 x h
      · exact hL x h⟩, q3, q4⟩ T' rfl X'
  exact ⟨t2, st t2 a1, b1⟩
/-- what a callee finds at the call -/
theorem CP_at {as : List Value} (C0 : Ctx w X q p s m args meth c) (hH : Hp w M s.heap H locs) (hsz : H.size = w.1 + mn M) (U : State) (hU : U.heap = H) (hW : s.WarmedH U.vm) : CP w X as M (as.map (cv w)).toArray U := by
  obtain ⟨hx, hb, hrt, hml, hown, hts, hlk, hnm, hK, hO, hbs, hov0⟩ := C0
  subst hU
  exact ⟨rfl, ⟨hH.1, hH.2.1, hH.2.2.2.1, hH.2.2.2.2⟩, hsz, va_K.moved hW.alike hK, hO.warm hW hH.2.2.1.1 hH.2.2.1.2.1⟩
end CALL
def rmOf (d mc ms' : Nat) : Room := { frames := d, cells := mc, slots := ms', locals := 40 * d + 20 }
theorem goodALL : GoodIn ALL ALL := fun x hx => ⟨hx, good_of_word (List.mem_filter.mp hx).2⟩
theorem good_code {q : MT} (h : mtCW q) : GoodIn ALL (Cond.code q.1 q.2.1 q.2.2.1 q.2.2.2.1 :: ALL) := fun x hx => by
  rcases List.mem_cons.mp hx with rfl | hx
  · exact goodALL _ h
  · exact goodALL _ hx
def MetP (w : Wp) (X : Nat × (Nat → Int32)) (l : Launch) (d : Nat) (t : MT) (as : List Value) (M : Mem) (v : Option Value) (M1 : Mem) : Prop := Met l t.1 (Cond.code t.1 t.2.1 t.2.2.1 t.2.2.2.1 :: ALL) (rmOf d (mn M1 - mn M) (ms M1 - ms M)) (CP w X as M) (CQ w v M1) (mn M1 - mn M) (ms M1 - ms M) (wA0 w)
/-- the statement about a run, for all callers -/
def RunP (w : Wp) (X : Nat × (Nat → Int32)) (l : Launch) (d : Nat) (q : MT) (pc : Nat) (L : List (Option Value)) (st : List Value) (M : Mem) (v : Option Value) (M1 : Mem) : Prop :=
  ∀ {p : Program} {e : Env} {R : Room} {s : State} {m : MethodId} {args : Array Value} {below : List Frame} {meth : Method} {c : Code} {Q : State → Prop} {H : Heap} {locs : List Loc} {ls : Array Slot} {n0 s0 : Nat}, Ctx w X q p s m args meth c → Hp w M s.heap H locs → lvh w ls q.2.2.1 L → s.heap.size = w.1 + n0 → n0 ≤ mn M → s0 ≤ ms M → mn M1 - n0 ≤ R.cells → ms M1 - s0 ≤ R.slots → d ≤ R.frames → 40 * d + 20 ≤ R.locals →
  (∀ (H' : Heap) (locs' : List Loc) (pc' : Nat) (ls' : Array Slot) (i : Instr) (nx : Nat) (st' : List Value), Hp w M1 s.heap H' locs' → q.2.2.2.2.2.lookup pc' = some (i, nx) → isRet i = true → retOK q.2.2.2.1 i st' = some v → W p l e R s m args below meth c H' locs' (mn M1 - n0) (ms M1 - s0) Q (F0 m pc' ls' (st'.map (cv w)))) →
  W p l e R s m args below meth c H locs (mn M - n0) (ms M - s0) Q (F0 m pc ls (st.map (cv w)))
theorem ret_core {w : Wp} {v : Option Value} {M1 : Mem} {p : Program} {l : Launch} {e : Env} {R : Room} {s : State} {m : MethodId} {args : Array Value} {below : List Frame} {meth : Method} {c : Code} {H : Heap} {locs : List Loc} {cells slots : Nat} {q : MT} {mi pc nx : Nat} {ls : Array Slot} {i : Instr} {st : List Value} (hq : mtabL[mi]? = some q) (hx : p.tables.exec = Jvm.exec) (hb : c.code = q.2.1) (hr : meth.sig.returnType = q.2.2.2.1) (hlk : meth.locks = false) (hH : Hp w M1 s.heap H locs) (hlo : q.2.2.2.2.2.lookup pc = some (i, nx)) (hi : isRet i = true) (ho : retOK q.2.2.2.1 i st = some v) :
    W p l e R s m args below meth c H locs cells slots (MQ below (CQ w v M1) args s cells slots (wA0 w)) (F0 m pc ls (st.map (cv w))) := by
  obtain ⟨len, hd, hz⟩ := at_DD hq hlo
  have hq2 : ∀ (o : Option Value) (t : State), t.heap = H → o = v.map (cv w) → CQ w v M1 args s (.returned o) t := fun o t ht e => by
    subst ht; subst e
    exact ⟨rfl, ⟨hH.1, hH.2.1, hH.2.2.2.1, hH.2.2.2.2⟩, hH.2.2.1.F rfl⟩
  unfold retOK at ho
  split at ho
  · rename_i hrt
    cases ho
    obtain ⟨rfl, rfl⟩ := hz rfl
    exact W.vret hx hb (hr.trans hrt) (fun t ht _ => hq2 _ t ht rfl) hH.2.2.1.2.2 hd hlk
  · rename_i t x hrt
    split at ho
    · rename_i hk
      cases ho
      obtain ⟨rfl, rfl⟩ := hz rfl
      rcases hk with rfl | ⟨-, hk⟩
      · exact W.iret hx hb (hr.trans hrt) (fun t ht _ => hq2 _ t ht rfl) hH.2.2.1.2.2 hd hlk
      · exact W.zret hx hb (hr.trans hrt) hk (fun t ht _ => hq2 _ t ht rfl) hH.2.2.1.2.2 hd hlk
    · cases ho
  · rename_i nm v' hrt
    obtain ⟨rfl, rfl⟩ := hz rfl
    split at ho
    · cases ho
      exact W.aret hx hb (hr.trans hrt) (Or.inl ⟨_, rfl⟩) (Or.inr ⟨_, rfl⟩) (fun t ht _ => hq2 _ t ht rfl) hH.2.2.1.2.2 hd hlk
    · cases ho
      exact W.aret hx hb (hr.trans hrt) (Or.inl ⟨_, rfl⟩) (Or.inl rfl) (fun t ht _ => hq2 _ t ht rfl) hH.2.2.1.2.2 hd hlk
    · cases ho
  · rename_i nm v' hrt
    obtain ⟨rfl, rfl⟩ := hz rfl
    split at ho
    · cases ho
      exact W.aret hx hb (hr.trans hrt) (Or.inr ⟨_, rfl⟩) (Or.inr ⟨_, rfl⟩) (fun t ht _ => hq2 _ t ht rfl) hH.2.2.1.2.2 hd hlk
    · cases ho
      exact W.aret hx hb (hr.trans hrt) (Or.inr ⟨_, rfl⟩) (Or.inl rfl) (fun t ht _ => hq2 _ t ht rfl) hH.2.2.1.2.2 hd hlk
    · cases ho
  · cases ho
theorem met_of {w : Wp} {X : Nat × (Nat → Int32)} {l : Launch} {d ti : Nat} {t : MT} {as : List Value} {M : Mem} {v : Option Value} {M1 : Mem} (hov0 : ∀ k, w.2.2.2 k = .null ∨ ∃ a, w.2.2.2 k = .ref a) (ht : mtabL[ti]? = some t) (hc : cat1s as = true) (hn : as.length ≤ t.2.2.1) (h : RunP w X l d t 0 (entL t.2.2.1 as) [] M v M1) : MetP w X l d t as M v M1 := by
  obtain ⟨hdec, hcls, hml11, hpl⟩ := mtabL_ok t (List.mem_of_getElem? ht)
  refine va_MetF hpl rfl ?_
  intro p e s m args below meth c s₁ B hml hv
  obtain ⟨rfl, ⟨hP, hD, hKd, hBy⟩, hsz, hK, hO⟩ := hv
  have hts := atoms_spec (ws := Cond.code t.1 t.2.1 t.2.2.1 t.2.2.2.1 :: ALL) B.pre
  have hown : s.vm.findClass t.1.cls = some m.cls := findClass_of_methodNamed B.named
  have C0 : Ctx w X t p s m (as.map (cv w)).toArray meth c := ⟨B.exec, B.bytes, B.returns, hml, by rw [← hcls]; exact hown, fun x hx => hts x (List.mem_cons_of_mem _ hx), B.notSynchronized, fun z => (name_of_methodNamed B.named B.method).1.trans z, hK, hO, by omega, hov0⟩
  have hcc := cat_cv (ov_cat hov0) hc
  have hl := lv_entry (as.map (cv w)) (n := t.2.2.1) (by rw [sl_one _ hcc, List.length_map]; exact hn)
  rw [lg_entry_eq]
  generalize (lg_sl (as.map (cv w)) ++ List.replicate (t.2.2.1 - (lg_sl (as.map (cv w))).length) Slot.unset).toArray = ls at hl ⊢
  have hlv := ent_lvh (ov_cat hov0) hc hn hl
  refine W.cs (cells' := mn M - mn M) (slots' := ms M - ms M) (Nat.sub_self _).symm (Nat.sub_self _).symm ?_
  refine h (Q := MQ below (CQ w v M1) (as.map (cv w)).toArray s (mn M1 - mn M) (ms M1 - ms M) (wA0 w)) (n0 := mn M) (s0 := ms M) C0 ⟨hP, hD, va_S.rf, hKd, hBy⟩ hlv hsz (Nat.le_refl _) (Nat.le_refl _) (Nat.le_refl _) (Nat.le_refl _) (Nat.le_refl _) (Nat.le_refl _) ?_
  intro H' locs' pc' ls' i nx st' hH' hlo hi ho
  exact ret_core ht B.exec B.bytes B.returns B.notSynchronized hH' hlo hi ho
