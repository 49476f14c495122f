/-! Locals that nobody asks for any more may be forgotten -/
def lsub (A B : List (Option Value)) : Prop := A.length = B.length ∧ ∀ (i : Nat) (v : Value), lget A i = some v → lget B i = some v
theorem lsub_lclr {A B : List (Option Value)} {i : Nat} (h : lsub A B) {j : Nat} {v : Value} (hj : lget (lclr A i) j = some v) : j = i ∨ lget (lclr B i) j = some v := by
  obtain ⟨h1, h2⟩ := lclr_get hj
  have h3 := h.2 _ _ h1
  by_cases hi : j + 1 = i
  · right
    subst hi
    have hc : ¬ v.category = 2 := fun z => h2 ⟨rfl, z⟩
    unfold lclr
    dsimp only
    rw [h3]
    dsimp only
    rw [if_neg hc]
    exact h3
  · right
    unfold lclr
    cases i with
    | zero => exact h3
    | succ k =>
      dsimp only
      cases hk : lget B k with
      | none => exact h3
      | some u =>
        dsimp only
        split
        · rw [lget_set, if_neg (fun z => hi (by omega))]
          exact h3
        · exact h3
theorem lsub_lset {A B : List (Option Value)} {i : Nat} {v : Value} (h : lsub A B) : lsub (lset A i v) (lset B i v) := by
  refine ⟨by unfold lset; rw [List.length_set, List.length_set, lclr_len, lclr_len]; exact h.1, fun j u hj => ?_⟩
  unfold lset at hj ⊢
  rw [lget_set] at hj ⊢
  rw [lclr_len] at hj ⊢
  rw [← h.1]
  split at hj
  · rename_i hc
    rw [if_pos hc]; exact hj
  · rename_i hc
    rw [if_neg hc]
    rcases lsub_lclr h hj with z | z
    · subst z
      have := lget_lt hj
      rw [lclr_len] at this
      exact absurd ⟨rfl, this⟩ hc
    · exact z
theorem lsub_lsetL {A B : List (Option Value)} {i : Nat} {v : Value} (h : lsub A B) : lsub (lsetL A i v) (lsetL B i v) := by
  refine ⟨by unfold lsetL; rw [List.length_set, List.length_set, List.length_set, List.length_set, lclr_len, lclr_len]; exact h.1, fun j u hj => ?_⟩
  have h1 := lsub_lset (i := i) (v := v) h
  have e1 : lsetL A i v = (lset A i v).set (i + 1) none := rfl
  have e2 : lsetL B i v = (lset B i v).set (i + 1) none := rfl
  rw [e1, lget_set] at hj
  rw [e2, lget_set, ← h1.1]
  split at hj
  · cases hj
  · rename_i hc
    rw [if_neg hc]
    exact h1.2 _ _ hj
theorem step_weak {o : Nat} {ini : Bool} {i : Instr} {pc nx : Nat} {A B : List (Option Value)} {st : List Value} {M : Mem} {f : Fr} (hs : lsub A B) (h : step1 o ini i pc nx A st M = some f) : ∃ L1, step1 o ini i pc nx B st M = some (f.1, L1, f.2.2.1, f.2.2.2) ∧ lsub f.2.1 L1 := by
  have hlen := hs.1
  cases i with
  | iload_n k =>
    unfold step1 at h ⊢
    dsimp only at h ⊢
    split at h
    · rename_i x hx
      cases h
      rw [hs.2 _ _ hx]
      exact ⟨B, rfl, hs⟩
    · cases h
  | iload k =>
    unfold step1 at h ⊢
    dsimp only at h ⊢
    split at h
    · rename_i x hx
      cases h
      rw [hs.2 _ _ hx]
      exact ⟨B, rfl, hs⟩
    · cases h
  | lload_n k =>
    unfold step1 at h ⊢
    dsimp only at h ⊢
    split at h
    · rename_i x hx
      cases h
      rw [hs.2 _ _ hx]
      exact ⟨B, rfl, hs⟩
    · cases h
  | lload k =>
    unfold step1 at h ⊢
    dsimp only at h ⊢
    split at h
    · rename_i x hx
      cases h
      rw [hs.2 _ _ hx]
      exact ⟨B, rfl, hs⟩
    · cases h
  | aload_n k =>
    unfold step1 at h ⊢
    dsimp only at h ⊢
    split at h
    · rename_i x hx
      split at h
      · rename_i hv
        cases h
        rw [hs.2 _ _ hx]
        exact ⟨B, if_pos hv, hs⟩
      · cases h
    · cases h
  | aload k =>
    unfold step1 at h ⊢
    dsimp only at h ⊢
    split at h
    · rename_i x hx
      split at h
      · rename_i hv
        cases h
        rw [hs.2 _ _ hx]
        exact ⟨B, if_pos hv, hs⟩
      · cases h
    · cases h
  | iinc k n =>
    unfold step1 at h ⊢
    dsimp only at h ⊢
    split at h
    · rename_i x hx
      split at h
      · rename_i hv
        cases h
        rw [hs.2 _ _ hx]
        exact ⟨_, if_pos (by rw [← hlen]; exact hv), lsub_lset hs⟩
      · cases h
    · cases h
  | istore_n k =>
    unfold step1 at h ⊢
    dsimp only at h ⊢
    split at h
    · split at h
      · rename_i hv
        cases h
        exact ⟨_, if_pos (by rw [← hlen]; exact hv), lsub_lset hs⟩
      · cases h
    · cases h
  | istore k =>
    unfold step1 at h ⊢
    dsimp only at h ⊢
    split at h
    · split at h
      · rename_i hv
        cases h
        exact ⟨_, if_pos (by rw [← hlen]; exact hv), lsub_lset hs⟩
      · cases h
    · cases h
  | lstore_n k =>
    unfold step1 at h ⊢
    dsimp only at h ⊢
    split at h
    · split at h
      · rename_i hv
        cases h
        exact ⟨_, if_pos (by rw [← hlen]; exact hv), lsub_lsetL hs⟩
      · cases h
    · cases h
  | lstore k =>
    unfold step1 at h ⊢
    dsimp only at h ⊢
    split at h
    · split at h
      · rename_i hv
        cases h
        exact ⟨_, if_pos (by rw [← hlen]; exact hv), lsub_lsetL hs⟩
      · cases h
    · cases h
  | astore_n k =>
    unfold step1 at h ⊢
    dsimp only at h ⊢
    split at h
    · split at h
      · rename_i hv
        cases h
        exact ⟨_, if_pos (by rw [← hlen]; exact hv), lsub_lset hs⟩
      · cases h
    · cases h
  | astore k =>
    unfold step1 at h ⊢
    dsimp only at h ⊢
    split at h
    · split at h
      · rename_i hv
        cases h
        exact ⟨_, if_pos (by rw [← hlen]; exact hv), lsub_lset hs⟩
      · cases h
    · cases h
  | lookupswitch dflt ps =>
    unfold step1 at h ⊢
    dsimp only at h ⊢
    split at h
    · split at h
      · rename_i hc
        cases h
        exact ⟨B, if_pos hc, hs⟩
      · cases h
    · cases h
  | tableswitch dflt lo hi offs =>
    unfold step1 at h ⊢
    dsimp only at h ⊢
    split at h
    · split at h
      · rename_i hc
        split at h
        · rename_i ho
          cases h
          exact ⟨B, by rw [if_pos hc, if_pos ho], hs⟩
        · cases h
      · rename_i hc
        split at h
        · rename_i off hoff
          split at h
          · rename_i ho
            cases h
            refine ⟨B, ?_, hs⟩
            dsimp only
            rw [if_neg hc]
            exact if_pos ho
          · cases h
        · cases h
    · cases h
  | _ =>
    unfold step1 at h ⊢
    dsimp only at h ⊢
    first
      | (cases h; done)
      | (cases h; exact ⟨B, rfl, hs⟩)
      | (repeat' split at h
         all_goals first
           | (cases h; done)
           | (cases h; exact ⟨B, rfl, hs⟩)
           | (cases h; refine ⟨B, ?_, hs⟩; simp_all; done))
theorem ev_weak : ∀ (n d mi pc : Nat) (A B : List (Option Value)) (st : List Value) (M : Mem) (r : Option Value × Mem), lsub A B → ev n d mi pc A st M = some r → ev n d mi pc B st M = some r := by
  intro n
  induction n with
  | zero => intro d mi pc A B st M r hs h; cases h
  | succ n ih =>
    intro d mi pc A B st M r hs h
    unfold ev at h ⊢
    cases hq : mtabL[mi]? with
    | none => rw [hq] at h; cases h
    | some q =>
      rw [hq] at h
      dsimp only at h ⊢
      cases hl : q.2.2.2.2.2.lookup pc with
      | none => rw [hl] at h; cases h
      | some e =>
        rw [hl] at h
        dsimp only at h ⊢
        by_cases hi : isRet e.1 = true
        · rw [if_pos hi] at h ⊢
          exact h
        · rw [if_neg hi] at h ⊢
          cases hk : invIx e.1 with
          | none =>
            rw [hk] at h
            dsimp only at h ⊢
            cases hf : step1 q.2.2.2.2.1 (decide (q.1.name = "<init>")) e.1 pc e.2 A st M with
            | none => rw [hf] at h; cases h
            | some f =>
              rw [hf] at h
              dsimp only at h
              obtain ⟨L1, g1, g2⟩ := step_weak hs hf
              rw [g1]
              dsimp only
              exact ih _ _ _ _ _ _ _ _ g2 h
          | some k =>
            rw [hk] at h
            dsimp only at h ⊢
            cases hS : sites.lookup (q.2.2.2.2.1, k) with
            | none => rw [hS] at h; cases h
            | some S =>
              rw [hS] at h
              dsimp only at h ⊢
              by_cases hm : modeI S.1 e.1 = false ∨ d = 0
              · rw [if_pos hm] at h; cases h
              · rw [if_neg hm] at h ⊢
                by_cases h8 : S.1 = 8
                · rw [if_pos h8] at h ⊢
                  split at h
                  · split at h
                    · rename_i hc
                      try dsimp only
                      rw [if_pos hc]
                      exact ih _ _ _ _ _ _ _ _ hs h
                    · cases h
                  · cases h
                · rw [if_neg h8] at h ⊢
                  by_cases h9 : S.1 = 9
                  · rw [if_pos h9] at h ⊢
                    split at h
                    · split at h
                      · rename_i hc
                        try dsimp only
                        rw [if_pos hc]
                        exact ih _ _ _ _ _ _ _ _ hs h
                      · cases h
                    · cases h
                  · rw [if_neg h9] at h ⊢
                    split at h
                    · rename_i hc
                      rw [if_pos hc]
                      cases ht : mtab[S.2.1]? with
                      | none => rw [ht] at h; cases h
                      | some t =>
                        rw [ht] at h
                        dsimp only at h ⊢
                        split at h
                        · cases h
                        · rename_i hlen
                          rw [if_neg hlen]
                          cases he : ev n (d - 1) S.2.1 0 (entL t.2.2.1 (st.take (naOf S.1 S.2.2.1)).reverse) [] M with
                          | none => rw [he] at h; cases h
                          | some r1 =>
                            rw [he] at h
                            dsimp only at h ⊢
                            exact ih _ _ _ _ _ _ _ _ hs h
                    · cases h
theorem EV_forget {d mi pc : Nat} {A B : List (Option Value)} {st : List Value} {M : Mem} {r : Option Value × Mem} (hs : lsub A B) (h : EV d mi pc A st M r) : EV d mi pc B st M r := by
  obtain ⟨n, hn⟩ := h
  exact ⟨n, ev_weak _ _ _ _ _ _ _ _ _ hs hn⟩
/-- entry by entry: none, or the same -/
def lsubP : List (Option Value) → List (Option Value) → Prop
  | [], [] => True
  | a :: A, b :: B => (a = none ∨ a = b) ∧ lsubP A B
  | _, _ => False
theorem lsub_of : ∀ (A B : List (Option Value)), lsubP A B → lsub A B
  | [], [], _ => ⟨rfl, fun i v h => h⟩
  | a :: A, b :: B, h => by
    obtain ⟨h1, h2⟩ := h
    obtain ⟨g1, g2⟩ := lsub_of A B h2
    refine ⟨by rw [List.length_cons, List.length_cons, g1], fun i v hv => ?_⟩
    cases i with
    | zero =>
      unfold lget at hv ⊢
      rw [List.getElem?_cons_zero] at hv ⊢
      rcases h1 with rfl | rfl
      · cases hv
      · exact hv
    | succ i =>
      unfold lget at hv ⊢
      rw [List.getElem?_cons_succ] at hv ⊢
      exact g2 i v hv
  | [], _ :: _, h => absurd h (by intro z; exact z)
  | _ :: _, [], h => absurd h (by intro z; exact z)
/-! more rows: references that must be there; branches; switches; calls by kind -/
section ROWS2
variable {β : Type} {y : β} {d mi pc nx o : Nat} {ini : Bool} {rt : Option FieldType} {il : List (Nat × Instr × Nat)} {L : List (Option Value)} {st : List Value} {M : Mem} {r : Option Value × Mem}
def gA {α : Type} (c j : Nat) (M : Mem) (a : Nat) (k : Nat → Option α) : Option α := gR c j M a (fun o => onR o none k)
def aA {α : Type} (M : Mem) (a : Nat) (i : Int32) (k : Nat → Option α) : Option α := aR M a i (fun o => onR o none k)
theorem r_gA {k a : Nat} {g : Nat × Nat × Nat × Nat} {kf : Nat → Option β} (hm : MX mi o ini rt il) (hl : il.lookup pc = some (.getfield k, nx)) (hf : flds.lookup (o, k) = some g) (ht : cty g.1 g.2.1 = 5) (h : gA (g.1 + 1) g.2.1 M a kf = some y) (kk : ∀ b, kf b = some y → EV d mi nx L (.ref b :: st) M r) : EV d mi pc L (.ref a :: st) M r :=
  r_gR hm hl hf ht h (fun v hv => h_onR (G := fun v => EV d mi nx L (rfv v :: st) M r) hv (fun z => by cases z) (fun b hb => kk b hb))
theorem r_aA {a : Nat} {i : Int32} {kf : Nat → Option β} (hm : MX mi o ini rt il) (hl : il.lookup pc = some (.aaload, nx)) (h : aA M a i kf = some y) (kk : ∀ b, kf b = some y → EV d mi nx L (.ref b :: st) M r) : EV d mi pc L (.int i :: .ref a :: st) M r :=
  r_aR hm hl h (fun v hv => h_onR (G := fun v => EV d mi nx L (rfv v :: st) M r) hv (fun z => by cases z) (fun b hb => kk b hb))
theorem EV_stq {pc' : Nat} {L' : List (Option Value)} {st' : List Value} {l : List (Nat × Instr × Nat)} (hm : MX mi o ini rt il) (hB : ∀ e ∈ l, il.lookup e.1 = some e.2) (hs : stpL o ini l (pc, L, st, M) = some (pc', L', st', M)) (k : EV d mi pc' L' st' M r) : EV d mi pc L st M r := EV_stp hm l (pc, L, st, M) (pc', L', st', M) hB hs k
theorem r_ifT {cd : ClassFile.Cond} {off : Int} {x : Int32} {tgt : Nat} (hm : MX mi o ini rt il) (hl : il.lookup pc = some (.ifCond cd off, nx)) (ho : 0 ≤ (pc : Int) + off) (ht : jmp pc off = tgt) (c : cndOf cd x 0 = true) (k : EV d mi tgt L st M r) : EV d mi pc L (.int x :: st) M r :=
  r_if hm hl ho ht (fun _ => k) (fun z => by rw [c] at z; cases z)
theorem r_ifF {cd : ClassFile.Cond} {off : Int} {x : Int32} (hm : MX mi o ini rt il) (hl : il.lookup pc = some (.ifCond cd off, nx)) (ho : 0 ≤ (pc : Int) + off) (c : cndOf cd x 0 = false) (k : EV d mi nx L st M r) : EV d mi pc L (.int x :: st) M r :=
  r_if hm hl ho rfl (fun z => by rw [c] at z; cases z) (fun _ => k)
theorem r_icT {cd : ClassFile.Cond} {off : Int} {x z : Int32} {tgt : Nat} (hm : MX mi o ini rt il) (hl : il.lookup pc = some (.if_icmp cd off, nx)) (ho : 0 ≤ (pc : Int) + off) (ht : jmp pc off = tgt) (c : cndOf cd x z = true) (k : EV d mi tgt L st M r) : EV d mi pc L (.int z :: .int x :: st) M r :=
  r_ic hm hl ho ht (fun _ => k) (fun z => by rw [c] at z; cases z)
theorem r_icF {cd : ClassFile.Cond} {off : Int} {x z : Int32} (hm : MX mi o ini rt il) (hl : il.lookup pc = some (.if_icmp cd off, nx)) (ho : 0 ≤ (pc : Int) + off) (c : cndOf cd x z = false) (k : EV d mi nx L st M r) : EV d mi pc L (.int z :: .int x :: st) M r :=
  r_ic hm hl ho rfl (fun z => by rw [c] at z; cases z) (fun _ => k)
theorem h_eq {x z : Int32} {A B : Option β} {G : Prop} (h : (if x = z then A else B) = some y) (kt : A = some y → cndOf .eq x z = true → G) (kf : B = some y → cndOf .eq x z = false → G) : G := h_ite h (b := cndOf .eq x z) (by simp [cndOf]) kt kf
theorem h_ne {x z : Int32} {A B : Option β} {G : Prop} (h : (if x = z then A else B) = some y) (kt : A = some y → cndOf .ne x z = false → G) (kf : B = some y → cndOf .ne x z = true → G) : G := h_ite h (b := !cndOf .ne x z) (by simp [cndOf]) (fun h c => kt h (by simpa using c)) (fun h c => kf h (by simpa using c))
theorem h_lt {x z : Int32} {A B : Option β} {G : Prop} (h : (if x < z then A else B) = some y) (kt : A = some y → cndOf .lt x z = true → G) (kf : B = some y → cndOf .lt x z = false → G) : G := h_ite h (b := cndOf .lt x z) (by simp [cndOf]) kt kf
theorem h_ge {x z : Int32} {A B : Option β} {G : Prop} (h : (if z ≤ x then A else B) = some y) (kt : A = some y → cndOf .ge x z = true → G) (kf : B = some y → cndOf .ge x z = false → G) : G := h_ite h (b := cndOf .ge x z) (by simp [cndOf]) kt kf
theorem h_gt {x z : Int32} {A B : Option β} {G : Prop} (h : (if z < x then A else B) = some y) (kt : A = some y → cndOf .gt x z = true → G) (kf : B = some y → cndOf .gt x z = false → G) : G := h_ite h (b := cndOf .gt x z) (by simp [cndOf]) kt kf
theorem h_le {x z : Int32} {A B : Option β} {G : Prop} (h : (if x ≤ z then A else B) = some y) (kt : A = some y → cndOf .le x z = true → G) (kf : B = some y → cndOf .le x z = false → G) : G := h_ite h (b := cndOf .le x z) (by simp [cndOf]) kt kf
theorem h_sw {x z : Int32} {A B : Option β} {G : Prop} (h : (if x = z then A else B) = some y) (kt : A = some y → x = z → G) (kf : B = some y → ¬ x = z → G) : G := by
  by_cases hc : x = z
  · rw [if_pos hc] at h; exact kt h hc
  · rw [if_neg hc] at h; exact kf h hc
theorem r_tsI {dflt lo hi off : Int} {offs : Array Int} {x : Int32} {tgt : Nat} (hm : MX mi o ini rt il) (hl : il.lookup pc = some (.tableswitch dflt lo hi offs, nx)) (h1 : ¬ (x.toInt < lo ∨ hi < x.toInt)) (h2 : offs[(x.toInt - lo).toNat]? = some off) (ho : 0 ≤ (pc : Int) + off) (ht : jmp pc off = tgt) (k : EV d mi tgt L st M r) : EV d mi pc L (.int x :: st) M r := by
  subst ht
  refine EV_step hm hl rfl rfl (f := (jmp pc off, L, st, M)) ?_ k
  unfold step1
  dsimp only
  rw [if_neg h1, h2]
  dsimp only
  rw [if_pos ho]
theorem r_tsD {dflt lo hi : Int} {offs : Array Int} {x : Int32} {tgt : Nat} (hm : MX mi o ini rt il) (hl : il.lookup pc = some (.tableswitch dflt lo hi offs, nx)) (h1 : x.toInt < lo ∨ hi < x.toInt) (ho : 0 ≤ (pc : Int) + dflt) (ht : jmp pc dflt = tgt) (k : EV d mi tgt L st M r) : EV d mi pc L (.int x :: st) M r := by
  subst ht
  refine EV_step hm hl rfl rfl (f := (jmp pc dflt, L, st, M)) ?_ k
  unfold step1
  dsimp only
  rw [if_pos h1, if_pos ho]
theorem r_ls {dflt off : Int} {ps : Array (Int × Int)} {x : Int32} {tgt : Nat} (hm : MX mi o ini rt il) (hl : il.lookup pc = some (.lookupswitch dflt ps, nx)) (hp : (ps.toList.zip (ps.toList.drop 1)).all (fun (a, next) => a.1 < next.1) = true) (h1 : Op.lookupswitch.offset ps.toList dflt x.toInt = off) (ho : 0 ≤ (pc : Int) + off) (ht : jmp pc off = tgt) (k : EV d mi tgt L st M r) : EV d mi pc L (.int x :: st) M r := by
  subst ht
  subst h1
  refine EV_step hm hl rfl rfl (f := (jmp pc (Op.lookupswitch.offset ps.toList dflt x.toInt), L, st, M)) ?_ k
  exact if_pos ⟨hp, ho⟩
theorem ro_int {x : Int32} : retOK (some .int) .ireturn [.int x] = some (some (.int x)) := by
  unfold retOK
  exact if_pos (Or.inl rfl)
theorem ro_nar {t : FieldType} {x : Int32} (ht : t = .boolean ∨ t = .char ∨ t = .byte) (h : narrow t (.int x) = .int x) : retOK (some t) .ireturn [.int x] = some (some (.int x)) := by
  rcases ht with rfl | rfl | rfl <;> (unfold retOK; exact if_pos (Or.inr ⟨by simp, h⟩))
theorem rc_34 {mode ti b : Nat} {as : List Value} (hm : mode = 3 ∨ mode = 4) (hK : mK M b = 14) : rcvOK mode ti M (.ref b :: as) = true := by
  rcases hm with rfl | rfl <;> exact decide_eq_true hK
theorem rc_1 {ti b c : Nat} {t : MT} {rr : vw_C} {as : List Value} (ht : mtabL[ti]? = some t) (hr : classes[c - 1]? = some rr) (hn : rr.1 = t.1.cls) (h0 : c ≠ 0) (hK : mK M b = c) : rcvOK 1 ti M (.ref b :: as) = true := by
  show (match mtabL[ti]? with
    | some q => match classes[mK M b - 1]? with
      | some r => decide (r.1 = q.1.cls ∧ mK M b ≠ 0)
      | none => false
    | none => false) = true
  rw [ht]
  dsimp only
  rw [hK, hr]
  exact decide_eq_true ⟨hn, h0⟩
theorem isRv_rfv (x : Option Nat) : isRv (rfv x) = true := by cases x <;> rfl
end ROWS2
def FU : Nat := 200000
