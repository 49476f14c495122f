/-! CALLS, and the run as a whole -/
theorem good_sub {ws : List Cond} (h : ∀ x ∈ ws, x ∈ ALL) : GoodIn ALL ws := fun x hx => goodALL x (h x hx)
theorem mtab_L {ti : Nat} {t : MT} (h : mtab[ti]? = some t) : mtabL[ti]? = some t := by
  unfold mtabL
  rw [List.getElem?_append_left (List.getElem?_eq_some_iff.mp h).1]
  exact h
theorem inv_static {i : Instr} {k mode : Nat} (h : invIx i = some k) (hm : modeI mode i = true) (hz : mode = 0 ∨ mode = 5 ∨ mode = 9) : i = .invokestatic k := by
  cases i <;> first | (cases h; done) | skip
  all_goals (cases h; rcases hz with rfl | rfl | rfl <;> first | rfl | cases hm)
theorem inv_virt {i : Instr} {k mode : Nat} (h : invIx i = some k) (hm : modeI mode i = true) (hz : mode = 1 ∨ mode = 3 ∨ mode = 7) : i = .invokevirtual k := by
  cases i <;> first | (cases h; done) | skip
  all_goals (cases h; rcases hz with rfl | rfl | rfl <;> first | rfl | cases hm)
theorem inv_spec {i : Instr} {k mode : Nat} (h : invIx i = some k) (hm : modeI mode i = true) (hz : mode = 2 ∨ mode = 4 ∨ mode = 6 ∨ mode = 8) : i = .invokespecial k := by
  cases i <;> first | (cases h; done) | skip
  all_goals (cases h; rcases hz with rfl | rfl | rfl | rfl <;> first | rfl | cases hm)
theorem stk_eq {w : Wp} {st as : List Value} {na : Nat} (has : as = (st.take na).reverse) : st.map (cv w) = (as.map (cv w)).reverse ++ (st.drop na).map (cv w) := by
  subst has
  rw [List.map_reverse, List.reverse_reverse, ← List.map_append, List.take_append_drop]
theorem rcv_1 {ti : Nat} {M : Mem} {as : List Value} (h : rcvOK 1 ti M as = true) : ∃ (b : Nat) (As : List Value) (q : MT) (r : vw_C), as = .ref b :: As ∧ mtabL[ti]? = some q ∧ classes[mK M b - 1]? = some r ∧ r.1 = q.1.cls ∧ mK M b ≠ 0 := by
  cases as with
  | nil => cases h
  | cons u As =>
    cases u with
    | ref b =>
      have h : (match mtabL[ti]? with
        | some q => match classes[mK M b - 1]? with
          | some r => decide (r.1 = q.1.cls ∧ mK M b ≠ 0)
          | none => false
        | none => false) = true := h
      split at h
      · rename_i q hq
        split at h
        · rename_i r hr
          rw [decide_eq_true_eq] at h
          exact ⟨b, As, q, r, rfl, hq, hr, h.1, h.2⟩
        · cases h
      · cases h
    | _ => cases h
theorem rcv_2 {mode ti : Nat} {M : Mem} {as : List Value} (hm : mode = 2 ∨ mode = 6) (h : rcvOK mode ti M as = true) : ∃ (b : Nat) (As : List Value), as = .ref b :: As := by
  cases as with
  | nil => rcases hm with rfl | rfl <;> cases h
  | cons u As =>
    cases u with
    | ref b => exact ⟨b, As, rfl⟩
    | _ => rcases hm with rfl | rfl <;> cases h
theorem rcv_3 {mode ti : Nat} {M : Mem} {as : List Value} (hm : mode = 3 ∨ mode = 4) (h : rcvOK mode ti M as = true) : ∃ (b : Nat) (As : List Value), as = .ref b :: As ∧ mK M b = 14 := by
  cases as with
  | nil => rcases hm with rfl | rfl <;> cases h
  | cons u As =>
    cases u with
    | ref b => rcases hm with rfl | rfl <;> exact ⟨b, As, rfl, of_decide_eq_true h⟩
    | _ => rcases hm with rfl | rfl <;> cases h
theorem rcv_7 {ti : Nat} {M : Mem} {as : List Value} (h : rcvOK 7 ti M as = true) : ∃ As : List Value, as = .retAddr 3 :: As := by
  cases as with
  | nil => cases h
  | cons u As =>
    cases u with
    | retAddr n =>
      match n, h with
      | 3, _ => exact ⟨As, rfl⟩
      | 0, h => cases h
      | 1, h => cases h
      | 2, h => cases h
      | n + 4, h => cases h
    | _ => cases h
section CORE
variable {w : Wp} {X : Nat × (Nat → Int32)} {q t : MT} {p : Program} {l : Launch} {e : Env} {R : Room} {s : State} {m : MethodId} {args : Array Value} {below : List Frame} {meth : Method} {c : Code} {H : Heap} {locs : List Loc} {Q : State → Prop} {M M2 : Mem} {ls : Array Slot} {pc nx n0 s0 k d : Nat} {i : Instr} {S : Nat × Nat × Nat × List Nat} {st as : List Value} {v : Option Value}
theorem call_core (C0 : Ctx w X q p s m args meth c) (hH : Hp w M s.heap H locs) (hsz : H.size = w.1 + mn M) (hls : ls.size = q.2.2.1) (hlk : sites.lookup (q.2.2.2.2.1, k) = some S) (hiv : invIx i = some k) (hmd : modeI S.1 i = true) (hDD : DD q i pc nx) (hd0 : d ≠ 0) (h8 : S.1 ≠ 8) (h9 : S.1 ≠ 9) (ht : mtab[S.2.1]? = some t) (has : as = (st.take (naOf S.1 S.2.2.1)).reverse) (hle : naOf S.1 S.2.2.1 ≤ st.length) (hcs : catS (st.drop (naOf S.1 S.2.2.1)) ≤ 8) (hrc : rcvOK S.1 S.2.1 M as = true)
    (hM : MetP w X l (d - 1) t as M v M2) (hc : (mn M - n0) + (mn M2 - mn M) ≤ R.cells) (hs : (ms M - s0) + (ms M2 - ms M) ≤ R.slots) (hf : d ≤ R.frames) (hlo : 40 * d + 20 ≤ R.locals) :
    va_Run p l e R s m args below meth c H locs (mn M - n0) (ms M - s0) (mn M2 - mn M) (ms M2 - ms M) (F0 m pc ls (st.map (cv w))) ((st.drop (naOf S.1 S.2.2.1)).map (cv w)) (CQ w v M2 (as.map (cv w)).toArray) (wA0 w) ∧ nx = pc + 3 := by
  have C1 := C0
  obtain ⟨hx, hb, hrt, hml, hown, hts, hlock, hnm, hK, hO, hbs, hov0⟩ := C0
  have hov := ov_cat hov0
  obtain ⟨len, hd, hz⟩ := hDD
  obtain ⟨⟨-, -, hm11, -⟩, hcw⟩ := mtab_ok t (List.mem_of_getElem? ht)
  have h1 := sites_ok _ (look_mem hlk)
  have CF : CallFix p m c q.2.1 q.2.2.1 s args ALL (oN q.2.2.2.2.1) := ⟨hx, hb, hml, hown, hts⟩
  have hPc := CP_at (as := as) C1 hH hsz
  have hR : (rmOf (d - 1) (mn M2 - mn M) (ms M2 - ms M)).frames + 1 ≤ R.frames ∧ 8 + (t.2.2.1 + 11) + (rmOf (d - 1) (mn M2 - mn M) (ms M2 - ms M)).locals ≤ R.locals := by
    unfold rmOf
    dsimp only
    omega
  have hcat : 2 * (F0 m pc ls (st.map (cv w))).monitorRoom + (((st.drop (naOf S.1 S.2.2.1)).map (cv w)).map fun v => v.category).sum ≤ 8 := by
    rw [catS_cv hov]
    show 2 * 0 + _ ≤ 8
    omega
  have hstk := stk_eq (w := w) has
  have hlen : as.length = naOf S.1 S.2.2.1 := by rw [has, List.length_reverse, List.length_take]; omega
  obtain ⟨mode, ti, na, ps⟩ := S
  unfold siteOK at h1
  dsimp only at h1 ht hmd hrc hlen hcat hstk hcs hle h8 h9 ⊢
  rw [ht] at h1
  dsimp only at h1
  have hpays : ∀ {x : List Cond}, (∀ y ∈ x, y ∈ ALL) → GoodIn ALL (x ++ (Cond.code t.1 t.2.1 t.2.2.1 t.2.2.2.1 :: ALL)) := fun hx => good_sub (fun y hy => by
    rcases List.mem_append.mp hy with h | h
    · exact hx y h
    · rcases List.mem_cons.mp h with rfl | h
      · exact hcw
      · exact h)
  match mode, h1, hmd, hrc, hlen, hcat, hstk, h8, h9 with
  | 0, h1, hmd, hrc, hlen, hcat, hstk, _, _ =>
    obtain rfl := inv_static hiv hmd (Or.inl rfl)
    obtain ⟨rfl, rfl⟩ := hz rfl
    simp only [Bool.and_eq_true, decide_eq_true_eq] at h1
    obtain ⟨⟨⟨⟨⟨h2, h3⟩, h4⟩, h5⟩, h6⟩, h7⟩ := h1
    refine ⟨va_runS CF hM ⟨callB_of na hts (good_code hcw) rfl rfl rfl (hts _ (hasW_mem h2)) (hts _ (hasW_mem h6)) ⟨h4, h5, h3⟩ hR, hts _ (hasW_mem h7)⟩ ⟨CP_blind, hPc⟩ rfl (by rw [List.length_map]; exact hlen) hls hstk hcat hd ⟨hc, hs⟩, rfl⟩
  | 5, h1, hmd, hrc, hlen, hcat, hstk, _, _ =>
    obtain rfl := inv_static hiv hmd (Or.inr (Or.inl rfl))
    obtain ⟨rfl, rfl⟩ := hz rfl
    simp only [Bool.and_eq_true, decide_eq_true_eq] at h1
    obtain ⟨⟨⟨⟨⟨h2, h3⟩, h4⟩, h5⟩, h6⟩, h7⟩ := h1
    refine ⟨va_runSN CF hM ⟨va_cnB na hts (good_code hcw) rfl rfl rfl (hO.2.2.2.2.2.2.1 _ (hasN_mem h6)) (hts _ (hasW_mem h2)) ⟨h4, h5, h3⟩ hR, hts _ (hasW_mem h7), trivial⟩ ⟨CP_blind, hPc⟩ rfl (by rw [List.length_map]; exact hlen) hls hstk hcat hd ⟨hc, hs⟩, rfl⟩
  | 1, h1, hmd, hrc, hlen, hcat, hstk, _, _ =>
    obtain rfl := inv_virt hiv hmd (Or.inl rfl)
    obtain ⟨rfl, rfl⟩ := hz rfl
    simp only [Bool.and_eq_true, decide_eq_true_eq] at h1
    obtain ⟨⟨⟨⟨⟨⟨h2, h3⟩, h4⟩, h5⟩, h6⟩, h7⟩, h7b⟩ := h1
    obtain ⟨b, As, q2, r, rfl, hq2, hr, hrc1, hrc2⟩ := rcv_1 hrc
    rw [mtab_L ht] at hq2
    cases hq2
    have hbn : b < mn M := hH.2.2.2.1 b hrc2
    have hci : mK M b - 1 < 14 := (List.getElem?_eq_some_iff.mp hr).1
    have hcell := va_recv hK hH.1 hr (q0 := b) (by rw [wsM_get hbn, ent_obj (ci := mK M b - 1) (by omega) hci])
    rw [hrc1] at hcell
    refine ⟨va_runV (As := As.map (cv w)) CF hM (cwV na hts (hpays (x := [.methodLink _ k t.1, .instanceMethod t.1, .selects t.1.cls t.1 t.1, .initialized t.1.cls]) (fun y hy => ?_)) rfl rfl rfl ⟨rfl, h4, h5, h3⟩ hR) ⟨CP_blind, hcell, hPc⟩ rfl (by rw [List.length_map]; simp only [List.length_cons, naOf] at hlen; omega) hls (by rw [hstk]; simp [cv]) hcat hd ⟨hc, hs⟩, rfl⟩
    simp only [List.mem_cons, List.not_mem_nil, or_false] at hy
    rcases hy with rfl | rfl | rfl | rfl
    · exact hasW_mem h6
    · exact hasW_mem h7
    · exact hasW_mem h7b
    · exact hasW_mem h2
  | 2, h1, hmd, hrc, hlen, hcat, hstk, _, _ =>
    obtain rfl := inv_spec hiv hmd (Or.inl rfl)
    obtain ⟨rfl, rfl⟩ := hz rfl
    simp only [Bool.and_eq_true, decide_eq_true_eq] at h1
    obtain ⟨⟨⟨⟨⟨⟨⟨h2, h3⟩, h4⟩, h5⟩, h6⟩, h7⟩, h7b⟩, h7c⟩ := h1
    obtain ⟨b, As, rfl⟩ := rcv_2 (Or.inl rfl) hrc
    have hM2 := hM
    unfold MetP at hM2
    rw [h7c] at hM2
    have hcw2 := good_code hcw
    rw [h7c] at hcw2
    exact ⟨va_runI (As := As.map (cv w)) CF hM2 (cwI na hts hcw2 rfl rfl rfl (hts _ (hasW_mem h2)) (hts _ (hasW_mem h6)) (hts _ (hasW_mem h7)) h7b ⟨h4, h5, h3⟩ hR) ⟨CP_blind, hPc⟩ rfl (by rw [List.length_map]; simp only [List.length_cons, naOf] at hlen; omega) hls (by rw [hstk]; simp [cv]) hcat hd ⟨hc, hs⟩, rfl⟩
  | 6, h1, hmd, hrc, hlen, hcat, hstk, _, _ =>
    obtain rfl := inv_spec hiv hmd (Or.inr (Or.inr (Or.inl rfl)))
    obtain ⟨rfl, rfl⟩ := hz rfl
    simp only [Bool.and_eq_true, decide_eq_true_eq] at h1
    obtain ⟨⟨⟨⟨⟨⟨⟨h2, h3⟩, h4⟩, h5⟩, h6⟩, h7⟩, h7b⟩, h7c⟩ := h1
    obtain ⟨b, As, rfl⟩ := rcv_2 (Or.inr rfl) hrc
    have hM2 := hM
    unfold MetP at hM2
    rw [h7c] at hM2
    have hcw2 := good_code hcw
    rw [h7c] at hcw2
    exact ⟨va_runIN (As := As.map (cv w)) CF hM2 ⟨va_cnB na hts hcw2 rfl rfl rfl (hO.2.2.2.2.2.2.1 _ (hasN_mem h6)) (hts _ (hasW_mem h2)) ⟨h4, h5, h3⟩ hR, h7b, hts _ (hasW_mem h7)⟩ ⟨CP_blind, hPc⟩ rfl (by rw [List.length_map]; simp only [List.length_cons, naOf] at hlen; omega) hls (by rw [hstk]; simp [cv]) hcat hd ⟨hc, hs⟩, rfl⟩
  | 3, h1, hmd, hrc, hlen, hcat, hstk, _, _ =>
    obtain rfl := inv_virt hiv hmd (Or.inr (Or.inl rfl))
    obtain ⟨rfl, rfl⟩ := hz rfl
    simp only [Bool.and_eq_true, decide_eq_true_eq] at h1
    obtain ⟨⟨⟨⟨⟨⟨⟨h2, h3⟩, h4⟩, h5⟩, h6⟩, h7⟩, h7b⟩, h7c⟩ := h1
    obtain ⟨b, As, rfl, hk14⟩ := rcv_3 (Or.inl rfl) hrc
    have hbn : b < mn M := hH.2.2.2.1 b (by omega)
    have hcell := va_recv (ci := 13) hK hH.1 rfl (q0 := b) (by rw [wsM_get hbn, ent_obj (ci := 13) hk14 (by omega)])
    refine ⟨va_runU (As := As.map (cv w)) (C := "java/lang/StringBuilder") CF hM (va_cwU (owner := t.1.cls) na hts (hpays (x := [.methodLink _ k t.1, .sameMethod t.1.cls t.1.cls t.1.name t.1.desc, .selects "java/lang/StringBuilder" t.1 t.1, .instanceMethod t.1, .initialized t.1.cls]) (fun y hy => ?_)) rfl rfl rfl rfl ⟨h4, h5, h3⟩ hR) ⟨CP_blind, hcell, hPc⟩ rfl (by rw [List.length_map]; simp only [List.length_cons, naOf] at hlen; omega) hls (by rw [hstk]; simp [cv]) hcat hd ⟨hc, hs⟩, rfl⟩
    simp only [List.mem_cons, List.not_mem_nil, or_false] at hy
    rcases hy with rfl | rfl | rfl | rfl | rfl
    · exact hasW_mem h6
    · exact hasW_mem h7b
    · exact hasW_mem h7c
    · exact hasW_mem h7
    · exact hasW_mem h2
  | 4, h1, hmd, hrc, hlen, hcat, hstk, _, _ =>
    obtain rfl := inv_spec hiv hmd (Or.inr (Or.inl rfl))
    obtain ⟨rfl, rfl⟩ := hz rfl
    simp only [Bool.and_eq_true, decide_eq_true_eq] at h1
    obtain ⟨⟨⟨⟨⟨⟨⟨⟨⟨h2, h3⟩, h4⟩, h5⟩, h6⟩, h7⟩, h7b⟩, h7c⟩, h7d⟩, h7e⟩ := h1
    obtain ⟨b, As, rfl, hk14⟩ := rcv_3 (Or.inr rfl) hrc
    have hbn : b < mn M := hH.2.2.2.1 b (by omega)
    have hcell := va_recv (ci := 13) hK hH.1 rfl (q0 := b) (by rw [wsM_get hbn, ent_obj (ci := 13) hk14 (by omega)])
    refine ⟨va_runSU (As := As.map (cv w)) (hK.1 13 _ rfl).2 CF hM (va_cwSU na hts (hpays (x := [.methodLink _ k t.1, .sameMethod t.1.cls t.1.cls t.1.name t.1.desc, .superclass _ t.1.cls, .instanceMethod t.1, .initialized t.1.cls]) (fun y hy => ?_)) rfl rfl rfl ⟨h7e, h3⟩ hR) ⟨CP_blind, hcell, hPc⟩ rfl (by rw [List.length_map]; simp only [List.length_cons, naOf] at hlen; omega) hls (by rw [hstk]; simp [cv]) hcat hd ⟨hc, hs⟩, rfl⟩
    simp only [List.mem_cons, List.not_mem_nil, or_false] at hy
    rcases hy with rfl | rfl | rfl | rfl | rfl
    · exact hasW_mem h6
    · exact hasW_mem h7b
    · exact hasW_mem h7c
    · exact hasW_mem h7
    · exact hasW_mem h2
  | 7, h1, hmd, hrc, hlen, hcat, hstk, _, _ =>
    obtain rfl := inv_virt hiv hmd (Or.inr (Or.inr rfl))
    obtain ⟨rfl, rfl⟩ := hz rfl
    simp only [Bool.and_eq_true, decide_eq_true_eq] at h1
    obtain ⟨⟨⟨⟨⟨⟨⟨h2, h3⟩, h4⟩, h5⟩, h6⟩, h7⟩, h7b⟩, h7c⟩ := h1
    obtain ⟨As, rfl⟩ := rcv_7 hrc
    obtain ⟨-, -, -, -, -, ⟨kA, vA, f1, f2, f3, f4, f5, f6, f7⟩, -⟩ := hO
    have hcell : ∃ cell : Cell, H[kA]? = some cell ∧ cell.vm.isStatics = false ∧ s.vm.findClass t.1.cls = some cell.cls := by
      obtain ⟨cell, g1, g2, g3, -⟩ := f3.kept hH.2.2.1.2.1
      exact ⟨cell, g1, g2, by rw [h7c]; exact g3⟩
    have hcv : (List.map (cv w) (Value.retAddr 3 :: As)) = Value.ref kA :: As.map (cv w) := by
      rw [List.map_cons]
      show w.2.2.2 3 :: _ = _
      rw [f1]
    rw [hcv] at hPc hstk ⊢
    refine ⟨va_runV (As := As.map (cv w)) CF hM (cwV na hts (hpays (x := [.methodLink _ k t.1, .instanceMethod t.1, .selects t.1.cls t.1 t.1, .initialized t.1.cls]) (fun y hy => ?_)) rfl rfl rfl ⟨rfl, h4, h5, h3⟩ hR) ⟨CP_blind, hcell, hPc⟩ rfl (by rw [List.length_map]; simp only [List.length_cons, naOf] at hlen; omega) hls (by rw [hstk]; simp) hcat hd ⟨hc, hs⟩, rfl⟩
    simp only [List.mem_cons, List.not_mem_nil, or_false] at hy
    rcases hy with rfl | rfl | rfl | rfl
    · exact hasW_mem h6
    · exact hasW_mem h7
    · exact hasW_mem h7b
    · exact hasW_mem h2
  | 8, _, _, _, _, _, _, h8, _ => exact absurd rfl h8
  | 9, _, _, _, _, _, _, _, h9 => exact absurd rfl h9
  | n + 10, h1, _, _, _, _, _, _, _ => cases h1
end CORE
theorem ev_sound {w : Wp} {X : Nat × (Nat → Int32)} {l : Launch} (hov0 : ∀ k, w.2.2.2 k = .null ∨ ∃ a, w.2.2.2 k = .ref a) : ∀ (n d mi pc : Nat) (L : List (Option Value)) (st : List Value) (M : Mem) (v : Option Value) (M1 : Mem) (q : MT), mtabL[mi]? = some q → ev n d mi pc L st M = some (v, M1) → mX M = X → RunP w X l d q pc L st M v M1 := by
  intro n
  induction n with
  | zero => intro d mi pc L st M v M1 q hq h; cases h
  | succ n ih =>
    intro d mi pc L st M v M1 q hq h hX p e R s m args below meth c Q H locs ls n0 s0 C0 hH hl hsb hn0 hs0 hc hs hf hlo hret
    have hmono := ev_mono _ _ _ _ _ _ _ _ h
    unfold ev at h
    rw [hq] at h
    dsimp only at h
    split at h
    · cases h
    · rename_i i nx hlk
      have hDD := at_DD hq hlk
      split at h
      · rename_i hi
        cases hr : retOK q.2.2.2.1 i st with
        | none => rw [hr] at h; cases h
        | some v2 =>
          rw [hr] at h
          cases h
          exact hret H locs pc ls i nx st hH hlk hi hr
      · split at h
        · rename_i k hk
          split at h
          · cases h
          · rename_i S hS
            split at h
            · cases h
            · rename_i hmd
              have hmd1 : modeI S.1 i = true := by cases hz : modeI S.1 i with
                | true => rfl
                | false => exact absurd (Or.inl hz) hmd
              have hd0 : d ≠ 0 := fun z => hmd (Or.inr z)
              have hsite := sites_ok _ (look_mem hS)
              have hx := C0.1
              have hb := C0.2.1
              have hml := C0.2.2.2.1
              have hown := C0.2.2.2.2.1
              have hts := C0.2.2.2.2.2.1
              split at h
              · rename_i h8
                split at h
                · rename_i a rest
                  split at h
                  · rename_i hcs
                    rw [h8] at hmd1
                    obtain rfl := inv_spec hk hmd1 (Or.inr (Or.inr (Or.inr rfl)))
                    obtain ⟨len, hd, hz⟩ := hDD
                    obtain ⟨rfl, rfl⟩ := hz rfl
                    unfold siteOK at hsite
                    rw [h8] at hsite
                    dsimp only at hsite
                    split at hsite
                    · cases hsite
                    · refine W.objInit (rest := rest.map (cv w)) hx hb hown (hts _ (hasW_mem hsite)) (hts _ oi_1) (hts _ oi_2) rfl (hl.1.trans hml.symm) rfl hd (by omega) ?_ ?_
                      · rw [catS_cv (ov_cat hov0)]
                        show 2 * 0 + _ + 12 ≤ _
                        omega
                      · exact ih _ _ _ _ _ _ _ _ q hq h hX C0 hH hl hsb hn0 hs0 hc hs hf hlo hret
                  · cases h
                · cases h
              · rename_i h8
                split at h
                · rename_i h9
                  split at h
                  · rename_i x dp b sp a rest
                    split at h
                    · rename_i hcd
                      obtain ⟨hka, hkb, hsp, hdp, hw, hla, hlb, hcs⟩ := hcd
                      rw [h9] at hmd1
                      obtain rfl := inv_static hk hmd1 (Or.inr (Or.inr rfl))
                      obtain ⟨len, hd, hz⟩ := hDD
                      obtain ⟨rfl, rfl⟩ := hz rfl
                      unfold siteOK at hsite
                      rw [h9] at hsite
                      dsimp only at hsite
                      split at hsite
                      · cases hsite
                      · have hK := C0.2.2.2.2.2.2.2.2.1
                        have han : a < mn M := hH.2.2.2.1 a (by omega)
                        have hbn : b < mn M := hH.2.2.2.1 b (by omega)
                        have hcs2 : ((rest.map (cv w)).map fun v => v.category).sum ≤ 8 := by rw [catS_cv (ov_cat hov0)]; exact hcs
                        have hnw : nativeFrameWords "java/lang/System" "arraycopy" 5 = 7 := by decide
                        have go : ∀ (kd : Nat), mK M a = kd → kd = 100 ∨ kd = 101 → ∀ (H1 : Heap) (locs1 : List Loc), va_P w.2.1 classes ((wsM w M).set b (w.1 + b, .inl (w.2.2.1 kd, mL M b, .inl (va_cpy (mI M a) (mI M b) sp.toNatClampNeg dp.toNatClampNeg x.toNatClampNeg)))) H1 → va_D (wA0 w) ((wsM w M).set b (w.1 + b, .inl (w.2.2.1 kd, mL M b, .inl (va_cpy (mI M a) (mI M b) sp.toNatClampNeg dp.toNatClampNeg x.toNatClampNeg)))) → va_S (wA0 w) s.heap H1 locs1 → W p l e R s m args below meth c H1 locs1 (mn M - n0) (ms M - s0) Q (F0 m (pc + 3) ls (rest.map (cv w))) := by
                          intro kd hkd h100 H1 locs1 g1 g2 g3
                          have hrow : mI (wA M b (va_cpy (mI M a) (mI M b) sp.toNatClampNeg dp.toNatClampNeg x.toNatClampNeg)) b = va_cpy (mI M a) (mI M b) sp.toNatClampNeg dp.toNatClampNeg x.toNatClampNeg := funext fun _ => if_pos rfl
                          have hH1 : Hp w (wA M b (va_cpy (mI M a) (mI M b) sp.toNatClampNeg dp.toNatClampNeg x.toNatClampNeg)) s.heap H1 locs1 := by
                            refine hH.put hbn rfl rfl ?_ (fun j hj => ent_wA_ne hj) (fun k j hk2 => ?_) g1 g2 g3
                            · rw [ent_arrI (M := wA M b (va_cpy (mI M a) (mI M b) sp.toNatClampNeg dp.toNatClampNeg x.toNatClampNeg)) (kd := kd) (hkb.trans hkd) (by omega) (by omega), hrow]
                              rfl
                            · by_cases hz2 : k = b
                              · subst hz2
                                rw [hrow]
                                unfold va_cpy
                                split
                                · exact hH.2.2.2.2 a _ (by omega)
                                · exact hH.2.2.2.2 k j hk2
                              · have : mI (wA M b (va_cpy (mI M a) (mI M b) sp.toNatClampNeg dp.toNatClampNeg x.toNatClampNeg)) k j = mI M k j := if_neg hz2
                                rw [this]
                                exact hH.2.2.2.2 k j hk2
                          exact ih _ _ _ _ _ (wA M b (va_cpy (mI M a) (mI M b) sp.toNatClampNeg dp.toNatClampNeg x.toNatClampNeg)) _ _ q hq h hX C0 hH1 hl hsb hn0 hs0 hc hs hf hlo hret
                        rcases hka with hka | hka
                        · exact va_copyi hx hb (hml.trans hl.1.symm) hown (hts _ (hasW_mem hsite)) (hts _ ac_1) (hts _ ac_2) (hts _ ac_3) hK hH.1 hH.2.1 hH.2.2.1 a b 0 0 (ty := .int) (by rw [wsM_get han, ent_arrI hka (by omega) (by omega)]) (by rw [wsM_get hbn, ent_arrI (hkb.trans hka) (by omega) (by omega)]) rfl rfl rfl hsp hdp hw hla hlb (fun _ _ => rfl) (by omega) (by rw [hnw]; omega) hd (go 100 hka (Or.inl rfl))
                        · exact va_copyi hx hb (hml.trans hl.1.symm) hown (hts _ (hasW_mem hsite)) (hts _ ac_1) (hts _ ac_2) (hts _ ac_3) hK hH.1 hH.2.1 hH.2.2.1 a b 1 1 (ty := .byte) (by rw [wsM_get han, ent_arrI hka (by omega) (by omega)]) (by rw [wsM_get hbn, ent_arrI (hkb.trans hka) (by omega) (by omega)]) rfl rfl rfl hsp hdp hw hla hlb (fun i _ => hH.2.2.2.2 a _ hka) (by omega) (by rw [hnw]; omega) hd (go 101 hka (Or.inr rfl))
                    · cases h
                  · cases h
                · rename_i h9
                  split at h
                  · rename_i hcd
                    obtain ⟨hle, hcat, hcs, hrc⟩ := hcd
                    split at h
                    · cases h
                    · rename_i t ht
                      split at h
                      · cases h
                      · rename_i hlen
                        split at h
                        · cases h
                        · rename_i v2 M2 hev
                          have hm1 := ev_mono _ _ _ _ _ _ _ _ hev
                          have hm2 := ev_mono _ _ _ _ _ _ _ _ h
                          have hM : MetP w X l (d - 1) t ((st.take (naOf S.1 S.2.2.1)).reverse) M v2 M2 := met_of hov0 (mtab_L ht) hcat (by omega) (ih _ _ _ _ _ _ _ _ t (mtab_L ht) hev hX)
                          have hc2 : (mn M - n0) + (mn M2 - mn M) ≤ R.cells := by
                            have := hm2.2.1
                            have := hm1.2.1
                            dsimp only at *
                            omega
                          have hs2 : (ms M - s0) + (ms M2 - ms M) ≤ R.slots := by
                            have := hm2.2.2
                            have := hm1.2.2
                            dsimp only at *
                            omega
                          refine W.szb (fun hle2 => ?_)
                          have hsz := hH.size hsb hn0 hle2
                          obtain ⟨hrun, rfl⟩ := call_core (l := l) (e := e) (below := below) (n0 := n0) (s0 := s0) (R := R) C0 hH hsz hl.1 hS hk hmd1 hDD hd0 h8 h9 ht rfl hle hcs hrc hM hc2 hs2 hf hlo
                          refine call_go hrun hH.2.2.1 (fun H1 locs1 hH1 => ?_)
                          have hm1n := hm1.2.1
                          have hm1s := hm1.2.2
                          dsimp only at hm1n hm1s
                          refine W.cs (cells' := mn M2 - n0) (slots' := ms M2 - s0) (by omega) (by omega) ?_
                          have hst : (v2.map (cv w)).toList ++ (st.drop (naOf S.1 S.2.2.1)).map (cv w) = (v2.toList ++ st.drop (naOf S.1 S.2.2.1)).map (cv w) := by
                            cases v2 <;> rfl
                          rw [hst]
                          exact ih _ _ _ _ _ _ _ _ q hq h (hm1.1.trans hX) C0 hH1 hl hsb (by omega) (by omega) hc hs hf hlo hret
                  · cases h
        · rename_i hk
          split at h
          · cases h
          · rename_i f hf2
            have hm := step_mono hf2
            have hm2 := ev_mono _ _ _ _ _ _ _ _ h
            have a1 := hm.2.1
            have a2 := hm.2.2
            have a3 := hm2.2.1
            have a4 := hm2.2.2
            dsimp only at a3 a4
            refine step_all hDD hf2 C0 hH hl hX hsb hn0 hs0 (by omega) (by omega) (fun H' locs' ls' hH' hl' hX' => ?_)
            exact ih _ _ _ _ _ _ _ _ q hq h hX' C0 hH' hl' hsb (by omega) (by omega) hc hs hf hlo hret
