/-! STEPS that touch the memory -/
/-- the world behind a store into an own cell -/
theorem Hp.put {w : Wp} {M M' : Mem} {H0 H H1 : Heap} {locs locs1 : List Loc} {a : Nat} {e : va_E} (hH : Hp w M H0 H locs) (ha : a < mn M) (hn : mn M' = mn M) (hK : mK M' = mK M) (he : ent w M' a = e) (ho : ∀ j, j ≠ a → ent w M' j = ent w M j)
    (hb : ∀ k j, mK M k = 101 → fits .byte (.int (mI M' k j)) = true) (h1 : va_P w.2.1 classes ((wsM w M).set a (w.1 + a, e)) H1) (h2 : va_D (wA0 w) ((wsM w M).set a (w.1 + a, e))) (h3 : va_S (wA0 w) H0 H1 locs1) : Hp w M' H0 H1 locs1 := by
  rw [wsM_set hn he ho] at h1 h2
  exact ⟨h1, h2, h3, by rw [hK, hn]; exact hH.2.2.2.1, fun k j hk => hb k j (by rw [← hK]; exact hk)⟩
theorem fld_at {a b : Nat} {f : Nat × Nat × Nat × Nat} (h : flds.lookup (a, b) = some f) : ∃ r : vw_C, classes[f.1]? = some r ∧ f.2.1 < r.2.2 ∧ (f.2.2.1 = 0 → .fieldLink (oN a) b (r.2.1 f.2.1).1 (r.2.1 f.2.1).2.1 (r.2.1 f.2.1).2.2.1 ∈ ALL) ∧ (f.2.2.1 ≠ 0 → .fieldLinkNest (oN a) b (r.2.1 f.2.1).1 (r.2.1 f.2.1).2.1 (r.2.1 f.2.1).2.2.1 "PipelineSimulator" ∈ NEST) := by
  have h1 := List.all_eq_true.mp flds_ok _ (look_mem h)
  unfold fldOK at h1
  dsimp only at h1
  split at h1
  · rename_i r hr
    rw [Bool.and_eq_true, decide_eq_true_eq] at h1
    refine ⟨r, hr, h1.1, fun z => ?_, fun z => ?_⟩
    · rw [if_pos z] at h1
      exact hasW_mem h1.2
    · rw [if_neg z] at h1
      exact hasN_mem h1.2
  · cases h1
theorem cv_slot {w : Wp} {M : Mem} {ci a j : Nat} : cv w (slotA M ci a j) = slotV w M ci a j := by
  unfold slotA slotV
  generalize cty ci j = t
  split
  · rfl
  · exact cv_rfv w _
  · rename_i h4 h5
    split
    · exact absurd rfl h4
    · exact absurd rfl h5
    · rfl
section STEP7
variable {w : Wp} {X : Nat × (Nat → Int32)} {q : MT} {p : Program} {l : Launch} {e : Env} {R : Room} {s : State} {m : MethodId} {args : Array Value} {below : List Frame} {meth : Method} {c : Code} {H : Heap} {locs : List Loc} {Q : State → Prop} {M : Mem} {L : List (Option Value)} {ls : Array Slot} {pc nx n0 s0 : Nat} {f : Fr}
theorem s_getfield {st : List Value} {k : Nat} (hd : DD q (.getfield k) pc nx) (h : step1 q.2.2.2.2.1 (decide (q.1.name = "<init>")) (.getfield k) pc nx L st M = some f) (C0 : Ctx w X q p s m args meth c) (hH : Hp w M s.heap H locs) (hl : lvh w ls q.2.2.1 L) (hX : mX M = X) (hn0 : n0 ≤ mn M) (hs0 : s0 ≤ ms M) (hc : mn f.2.2.2 - n0 ≤ R.cells) (hs : ms f.2.2.2 - s0 ≤ R.slots) (kk : KK w X q p l e R s m args below meth c Q n0 s0 f) : GG w p l e R s m args below meth c Q H locs M n0 s0 pc ls st := by
  obtain ⟨hx, hb, hrt, hml, hown, hts, hlk, hnm, hK, hO, hbs, hov0⟩ := C0
  have hov := ov_cat hov0
  obtain ⟨len, hd, hz⟩ := hd
  obtain ⟨rfl, rfl⟩ := hz rfl
  unfold step1 at h
  dsimp only at h
  split at h
  · rename_i a st
    split at h
    · rename_i g hg
      split at h
      · rename_i hk
        cases h
        obtain ⟨r, hr, hj, hl1, hl2⟩ := fld_at hg
        have hci : g.1 < 14 := (List.getElem?_eq_some_iff.mp hr).1
        have ha : a < mn M := hH.2.2.2.1 a (by omega)
        obtain ⟨c1, c2, c3, c4⟩ := cls_ok _ r hr
        have he : (wsM w M)[a]? = some (w.1 + a, .inr (g.1, (List.range (cN g.1)).map (fun j => slotV w M g.1 a j))) := by rw [wsM_get ha, ent_obj hk hci]
        have kk : W p l e R s m args below meth c H locs (mn M - n0) (ms M - s0) Q (F0 m _ ls (cv w _ :: st.map (cv w))) := kk _ _ _ hH hl hX
        rw [cv_slot] at kk
        have hv : ((List.range (cN g.1)).map (fun j => slotV w M g.1 a j))[g.2.1]? = some (slotV w M g.1 a g.2.1) := map_get (by rw [c4]; exact hj)
        by_cases hn : g.2.2.1 = 0
        · exact va_get hx hb hts c1 hown hK hH.1 a he hr g.2.1 hj (hts _ (hl1 hn)) (fun _ z => z) hv hd kk
        · exact va_getN hx hb hts c1 hown hK hH.1 a he hr g.2.1 hj (hO.2.2.2.2.2.2.1 _ (hl2 hn)) (fun _ z => z) hv hd kk
      · cases h
    · cases h
  · rename_i st
    split at h
    · rename_i g hg
      cases h
      obtain ⟨-, -, -, -, -, ⟨kA, vA, f1, f2, f3, f4, f5, f6, f7⟩, -⟩ := hO
      have h1 := List.all_eq_true.mp sflds_ok _ (look_mem hg)
      dsimp only at h1
      show W p l e R s m args below meth c H locs (mn M - n0) (ms M - s0) Q (F0 m _ ls (w.2.2.2 3 :: st.map (cv w)))
      rw [f1]
      have kk := kk _ _ _ hH hl hX
      by_cases hz : g.1 = 0
      · rw [if_pos hz] at h1
        rw [if_pos hz] at kk
        have kk : W p l e R s m args below meth c H locs (mn M - n0) (ms M - s0) Q (F0 m _ ls (w.2.2.2 4 :: st.map (cv w))) := kk
        rw [f2] at kk
        exact vk_getf hx hb f5 hH.2.2.1 hown (hts _ (hasW_mem h1)) (fun _ z => z) hd kk
      · rw [if_neg hz] at h1
        rw [if_neg hz] at kk
        exact vk_getf hx hb f4 hH.2.2.1 hown (hts _ (hasW_mem h1)) (fun _ z => z) hd kk
    · cases h
  · cases h

theorem put_core {k a : Nat} {st : List Value} {g : Nat × Nat × Nat × Nat} {v : Value} {M' : Mem} (C0 : Ctx w X q p s m args meth c) (hH : Hp w M s.heap H locs) (hg : flds.lookup (q.2.2.2.2.1, k) = some g) (hk : mK M a = g.1 + 1) (hf : ffin g.1 g.2.1 = false ∨ (decide (q.1.name = "<init>") = true ∧ g.2.2.1 = 0 ∧ fdecl g.1 g.2.1 = oN q.2.2.2.2.1)) (hd : decode q.2.1 pc = .ok (.putfield k, 3))
    (hn : narrow (ftyOf g.1 g.2.1) v = v) (hfit : fits (ftyOf g.1 g.2.1) v = true) (hM : mn M' = mn M) (hKM : mK M' = mK M) (he : ent w M' a = .inr (g.1, ((List.range (cN g.1)).map (fun j => slotV w M g.1 a j)).set g.2.1 v)) (ho : ∀ j, j ≠ a → ent w M' j = ent w M j) (hby : ∀ k j, mK M k = 101 → fits .byte (.int (mI M' k j)) = true)
    (kk : ∀ (H' : Heap) (locs' : List Loc), Hp w M' s.heap H' locs' → W p l e R s m args below meth c H' locs' (mn M - n0) (ms M - s0) Q (F0 m (pc + 3) ls (st.map (cv w)))) : W p l e R s m args below meth c H locs (mn M - n0) (ms M - s0) Q (F0 m pc ls (v :: .ref (w.1 + a) :: st.map (cv w))) := by
  obtain ⟨hx, hb, hrt, hml, hown, hts, hlk, hnm, hK, hO, hbs, hov0⟩ := C0
  obtain ⟨r, hr, hj, hl1, hl2⟩ := fld_at hg
  have hci : g.1 < 14 := (List.getElem?_eq_some_iff.mp hr).1
  have ha : a < mn M := hH.2.2.2.1 a (by omega)
  obtain ⟨c1, c2, c3, c4⟩ := cls_ok _ r hr
  have hw : (wsM w M)[a]? = some (w.1 + a, .inr (g.1, (List.range (cN g.1)).map (fun j => slotV w M g.1 a j))) := by rw [wsM_get ha, ent_obj hk hci]
  have hlen : g.2.1 < ((List.range (cN g.1)).map (fun j => slotV w M g.1 a j)).length := by rw [List.length_map, List.length_range, c4]; exact hj
  have kk2 : ∀ (H1 : Heap) (locs1 : List Loc), va_P w.2.1 classes ((wsM w M).set a (w.1 + a, .inr (g.1, ((List.range (cN g.1)).map (fun j => slotV w M g.1 a j)).set g.2.1 v))) H1 → va_D (wA0 w) ((wsM w M).set a (w.1 + a, .inr (g.1, ((List.range (cN g.1)).map (fun j => slotV w M g.1 a j)).set g.2.1 v))) → va_S (wA0 w) s.heap H1 locs1 → W p l e R s m args below meth c H1 locs1 (mn M - n0) (ms M - s0) Q (F0 m (pc + 3) ls (st.map (cv w))) := fun H1 locs1 h1 h2 h3 => kk H1 locs1 (hH.put ha hM hKM he ho hby h1 h2 h3)
  have hfn : ffin g.1 g.2.1 = (r.2.1 g.2.1).2.2.2 := by unfold ffin; rw [hr]
  have hfd : fdecl g.1 g.2.1 = (r.2.1 g.2.1).1 := by unfold fdecl; rw [hr]
  by_cases hn1 : g.2.2.1 = 0
  · by_cases hff : (r.2.1 g.2.1).2.2.2 = false
    · exact va_put hx hb hts c1 (ftyOf g.1) c2 c3 hown hK hH.1 hH.2.1 hH.2.2.1 a hw hr g.2.1 hj (hts _ (hl1 hn1)) (fun _ z => z) hff (c2 _ hj) hn hfit hlen hd kk2
    · have hff : (r.2.1 g.2.1).2.2.2 = true := by cases hq : (r.2.1 g.2.1).2.2.2 <;> simp_all
      have hf2 := hf.resolve_left (by rw [hfn, hff]; exact fun z => by cases z)
      exact va_putF hx hb hts c1 (ftyOf g.1) c2 c3 hown hK hH.1 hH.2.1 hH.2.2.1 a hw hr g.2.1 hj (hts _ (hl1 hn1)) (fun _ z => z) hff (hnm (of_decide_eq_true hf2.1)) (by rw [← hfd]; exact hf2.2.2) (c2 _ hj) hn hfit hlen hd kk2
  · have hff : (r.2.1 g.2.1).2.2.2 = false := by
      rcases hf with h | h
      · rw [← hfn]; exact h
      · exact absurd h.2.1 hn1
    exact va_putN hx hb hts c1 (ftyOf g.1) c2 c3 hown hK hH.1 hH.2.1 hH.2.2.1 a hw hr g.2.1 hj (hO.2.2.2.2.2.2.1 _ (hl2 hn1)) (fun _ z => z) hff (c2 _ hj) hn hfit hlen hd kk2
theorem slot_wI {j0 : Nat} {ci a j : Nat} {x : Int32} (h : cty ci j ≠ 4 ∧ cty ci j ≠ 5) (hj : j < cN ci) : ((List.range (cN ci)).map (fun j => slotV w M ci a j)).set j (.int x) = (List.range (cN ci)).map (fun i => slotV w (wI M a j x) ci a i) := by
  refine map_set hj ?_ (fun i hi => ?_)
  · unfold slotV
    split
    · rename_i z; exact absurd z h.1
    · rename_i z; exact absurd z h.2
    · exact congrArg Value.int (if_pos ⟨rfl, rfl⟩)
  · have h1 : mI (wI M a j x) a i = mI M a i := if_neg (fun z => hi z.2)
    unfold slotV
    rw [h1]
    rfl
theorem slot_wJ {ci a j : Nat} {x : Int64} (h : cty ci j = 4) (hj : j < cN ci) : ((List.range (cN ci)).map (fun j => slotV w M ci a j)).set j (.long x) = (List.range (cN ci)).map (fun i => slotV w (wJ M a j x) ci a i) := by
  refine map_set hj ?_ (fun i hi => ?_)
  · unfold slotV
    rw [h]
    exact congrArg Value.long (if_pos ⟨rfl, rfl⟩)
  · have h1 : mJ (wJ M a j x) a i = mJ M a i := if_neg (fun z => hi z.2)
    unfold slotV
    rw [h1]
    rfl
theorem slot_wR {ci a j b : Nat} (h : cty ci j = 5) (hj : j < cN ci) : ((List.range (cN ci)).map (fun j => slotV w M ci a j)).set j (.ref (w.1 + b)) = (List.range (cN ci)).map (fun i => slotV w (wR M a j (some b)) ci a i) := by
  refine map_set hj ?_ (fun i hi => ?_)
  · have h1 : mR (wR M a j (some b)) a j = some b := if_pos ⟨rfl, rfl⟩
    unfold slotV
    rw [h, h1]
    rfl
  · have h1 : mR (wR M a j (some b)) a i = mR M a i := if_neg (fun z => hi z.2)
    unfold slotV
    rw [h1]
    rfl
theorem byte_wI {a j k j' : Nat} {x : Int32} (h : mK M k = 101 → fits .byte (.int (mI M k j')) = true) (hx : mK M a = 101 → fits .byte (.int x) = true) (hk : mK M k = 101) : fits .byte (.int (mI (wI M a j x) k j')) = true := by
  show fits .byte (.int (u2 M.1 a j x k j')) = true
  unfold u2
  split
  · rename_i z
    exact hx (by rw [← z.1]; exact hk)
  · exact h hk
theorem s_putfield {st : List Value} {k : Nat} (hd : DD q (.putfield k) pc nx) (h : step1 q.2.2.2.2.1 (decide (q.1.name = "<init>")) (.putfield k) pc nx L st M = some f) (C0 : Ctx w X q p s m args meth c) (hH : Hp w M s.heap H locs) (hl : lvh w ls q.2.2.1 L) (hX : mX M = X) (hn0 : n0 ≤ mn M) (hs0 : s0 ≤ ms M) (hc : mn f.2.2.2 - n0 ≤ R.cells) (hs : ms f.2.2.2 - s0 ≤ R.slots) (kk : KK w X q p l e R s m args below meth c Q n0 s0 f) : GG w p l e R s m args below meth c Q H locs M n0 s0 pc ls st := by
  obtain ⟨hx, hb, hrt, hml, hown, hts, hlk, hnm, hK, hO, hbs, hov0⟩ := C0
  have hov := ov_cat hov0
  obtain ⟨len, hd, hz⟩ := hd
  obtain ⟨rfl, rfl⟩ := hz rfl
  unfold step1 at h
  dsimp only at h
  split at h
  · rename_i v a st
    split at h
    · rename_i g hg
      split at h
      · rename_i hk
        obtain ⟨r, hr, hj, hl1, hl2⟩ := fld_at hg
        have hci : g.1 < 14 := (List.getElem?_eq_some_iff.mp hr).1
        obtain ⟨c1, c2, c3, c4⟩ := cls_ok _ r hr
        have hct := cty_ok hr hj
        have hjN : g.2.1 < cN g.1 := by rw [c4]; exact hj
        have C0 : Ctx w X q p s m args meth c := ⟨hx, hb, hrt, hml, hown, hts, hlk, hnm, hK, hO, hbs, hov0⟩
        have hko : ∀ {M' : Mem}, mK M' = mK M → ent w M' a = .inr (g.1, (List.range (cN g.1)).map (fun j => slotV w M' g.1 a j)) := fun hz => ent_obj (by rw [hz]; exact hk.1) hci
        have hb101 : ∀ x : Int32, mK M a = 101 → fits .byte (.int x) = true := fun x z => by rw [hk.1] at z; omega
        split at h
        · rename_i x hc0
          cases h
          rw [hc0] at hct
          have ht : ftyOf g.1 g.2.1 = .int := by cases hq : ftyOf g.1 g.2.1 <;> rw [hq] at hct <;> first | rfl | cases hct
          exact put_core (st := st) (M' := wI M a g.2.1 x) (v := .int x) C0 hH hg hk.1 hk.2 hd (by rw [ht]; rfl) (by rw [ht]; rfl) rfl rfl (by rw [slot_wI (j0 := 0) (by rw [hc0]; decide) hjN]; exact hko (M' := wI M a g.2.1 x) rfl) (fun j hj => ent_wI_ne hj) (fun k j hk2 => byte_wI (hH.2.2.2.2 k j) (hb101 x) hk2) (fun H' locs' hH' => kk H' locs' ls hH' hl hX)
        · rename_i x hc0
          split at h
          · rename_i hnf
            cases h
            rw [hc0] at hct
            have ht : ftyOf g.1 g.2.1 = .boolean := by cases hq : ftyOf g.1 g.2.1 <;> rw [hq] at hct <;> first | rfl | cases hct
            exact put_core (st := st) (M' := wI M a g.2.1 x) (v := .int x) C0 hH hg hk.1 hk.2 hd (by rw [ht]; exact congrArg Value.int hnf.1) (by rw [ht]; exact hnf.2) rfl rfl (by rw [slot_wI (j0 := 0) (by rw [hc0]; decide) hjN]; exact hko (M' := wI M a g.2.1 x) rfl) (fun j hj => ent_wI_ne hj) (fun k j hk2 => byte_wI (hH.2.2.2.2 k j) (hb101 x) hk2) (fun H' locs' hH' => kk H' locs' ls hH' hl hX)
          · cases h
        · rename_i x hc0
          split at h
          · rename_i hnf
            cases h
            rw [hc0] at hct
            have ht : ftyOf g.1 g.2.1 = .byte := by cases hq : ftyOf g.1 g.2.1 <;> rw [hq] at hct <;> first | rfl | cases hct
            exact put_core (st := st) (M' := wI M a g.2.1 x) (v := .int x) C0 hH hg hk.1 hk.2 hd (by rw [ht]; exact congrArg Value.int hnf.1) (by rw [ht]; exact hnf.2) rfl rfl (by rw [slot_wI (j0 := 0) (by rw [hc0]; decide) hjN]; exact hko (M' := wI M a g.2.1 x) rfl) (fun j hj => ent_wI_ne hj) (fun k j hk2 => byte_wI (hH.2.2.2.2 k j) (hb101 x) hk2) (fun H' locs' hH' => kk H' locs' ls hH' hl hX)
          · cases h
        · rename_i x hc0
          cases h
          rw [hc0] at hct
          have ht : ftyOf g.1 g.2.1 = .long := by cases hq : ftyOf g.1 g.2.1 <;> rw [hq] at hct <;> first | rfl | cases hct
          exact put_core (st := st) (M' := wJ M a g.2.1 x) (v := .long x) C0 hH hg hk.1 hk.2 hd (by rw [ht]; rfl) (by rw [ht]; rfl) rfl rfl (by rw [slot_wJ hc0 hjN]; exact hko (M' := wJ M a g.2.1 x) rfl) (fun j hj => ent_wJ_ne hj) (fun k j hk2 => hH.2.2.2.2 k j hk2) (fun H' locs' hH' => kk H' locs' ls hH' hl hX)
        · rename_i b hc0
          cases h
          rw [hc0] at hct
          have ht : (∃ n, ftyOf g.1 g.2.1 = .object n) ∨ ∃ t, ftyOf g.1 g.2.1 = .array t := by cases hq : ftyOf g.1 g.2.1 <;> rw [hq] at hct <;> first | exact Or.inl ⟨_, rfl⟩ | exact Or.inr ⟨_, rfl⟩ | cases hct
          exact put_core (st := st) (M' := wR M a g.2.1 (some b)) (v := .ref (w.1 + b)) C0 hH hg hk.1 hk.2 hd (by rcases ht with ⟨n, ht⟩ | ⟨t, ht⟩ <;> rw [ht] <;> rfl) (by rcases ht with ⟨n, ht⟩ | ⟨t, ht⟩ <;> rw [ht] <;> rfl) rfl rfl (by rw [slot_wR hc0 hjN]; exact hko (M' := wR M a g.2.1 (some b)) rfl) (fun j hj => ent_wR_ne hj) (fun k j hk2 => hH.2.2.2.2 k j hk2) (fun H' locs' hH' => kk H' locs' ls hH' hl hX)
        · cases h
      · cases h
    · cases h
  · cases h

theorem s_getstatic {st : List Value} {k : Nat} (hd : DD q (.getstatic k) pc nx) (h : step1 q.2.2.2.2.1 (decide (q.1.name = "<init>")) (.getstatic k) pc nx L st M = some f) (C0 : Ctx w X q p s m args meth c) (hH : Hp w M s.heap H locs) (hl : lvh w ls q.2.2.1 L) (hX : mX M = X) (hn0 : n0 ≤ mn M) (hs0 : s0 ≤ ms M) (hc : mn f.2.2.2 - n0 ≤ R.cells) (hs : ms f.2.2.2 - s0 ≤ R.slots) (kk : KK w X q p l e R s m args below meth c Q n0 s0 f) : GG w p l e R s m args below meth c Q H locs M n0 s0 pc ls st := by
  obtain ⟨hx, hb, hrt, hml, hown, hts, hlk, hnm, hK, hO, hbs, hov0⟩ := C0
  have hov := ov_cat hov0
  obtain ⟨len, hd, hz⟩ := hd
  obtain ⟨rfl, rfl⟩ := hz rfl
  unfold step1 at h
  dsimp only at h
  split at h
  · rename_i g hg
    cases h
    obtain ⟨-, ⟨t1, b1, b2, b3⟩, ⟨t2, c1, c2, c3⟩, d1, ⟨v, e1, e2, e3⟩, -⟩ := hO
    have h1 := List.all_eq_true.mp stats_ok _ (look_mem hg)
    dsimp only at h1
    have h1 := hts _ (hasW_mem h1)
    have kk : W p l e R s m args below meth c H locs (mn M - n0) (ms M - s0) Q (F0 m _ ls (cv w (statV g.1) :: st.map (cv w))) := kk _ _ _ hH hl hX
    obtain ⟨g1, g2⟩ := g
    dsimp only at h1 kk
    match g1, h1, kk with
    | 0, h1, kk => exact va_gets hx hb d1 hH.2.2.1 hown h1 (fun _ z => z) hd kk
    | 1, h1, kk =>
      have kk : W p l e R s m args below meth c H locs (mn M - n0) (ms M - s0) Q (F0 m _ ls (w.2.2.2 5 :: st.map (cv w))) := kk
      rw [e1] at kk
      exact va_gets hx hb e3 hH.2.2.1 hown h1 (fun _ z => z) hd kk
    | 2, h1, kk =>
      have kk : W p l e R s m args below meth c H locs (mn M - n0) (ms M - s0) Q (F0 m _ ls (w.2.2.2 1 :: st.map (cv w))) := kk
      rw [b1] at kk
      exact va_gets hx hb b2 hH.2.2.1 hown h1 (fun _ z => z) hd kk
    | n + 3, h1, kk =>
      have kk : W p l e R s m args below meth c H locs (mn M - n0) (ms M - s0) Q (F0 m _ ls (w.2.2.2 2 :: st.map (cv w))) := kk
      rw [c1] at kk
      exact va_gets hx hb c2 hH.2.2.1 hown h1 (fun _ z => z) hd kk
  · cases h

theorem s_iaload {st : List Value}  (hd : DD q (.iaload) pc nx) (h : step1 q.2.2.2.2.1 (decide (q.1.name = "<init>")) (.iaload) pc nx L st M = some f) (C0 : Ctx w X q p s m args meth c) (hH : Hp w M s.heap H locs) (hl : lvh w ls q.2.2.1 L) (hX : mX M = X) (hn0 : n0 ≤ mn M) (hs0 : s0 ≤ ms M) (hc : mn f.2.2.2 - n0 ≤ R.cells) (hs : ms f.2.2.2 - s0 ≤ R.slots) (kk : KK w X q p l e R s m args below meth c Q n0 s0 f) : GG w p l e R s m args below meth c Q H locs M n0 s0 pc ls st := by
  obtain ⟨hx, hb, hrt, hml, hown, hts, hlk, hnm, hK, hO, hbs, hov0⟩ := C0
  have hov := ov_cat hov0
  obtain ⟨len, hd, hz⟩ := hd
  obtain ⟨rfl, rfl⟩ := hz rfl
  unfold step1 at h
  dsimp only at h
  split at h
  · rename_i j a st
    split at h
    · rename_i hk
      cases h
      have ha : a < mn M := hH.2.2.2.1 a (by omega)
      exact va_iald hx hb hK hH.1 a 0 (by rw [wsM_get ha, ent_arrI hk.1 (by omega) (by omega)]) rfl (inR_in hk.2) hd (kk _ _ _ hH hl hX)
    · cases h
  · rename_i j st
    split at h
    · rename_i hk
      cases h
      obtain ⟨⟨b, a1, a2, a3, a4⟩, -⟩ := hO
      show W p l e R s m args below meth c H locs (mn M - n0) (ms M - s0) Q (F0 m _ ls (.int j :: w.2.2.2 0 :: st.map (cv w)))
      rw [a1]
      subst hX
      exact va_sld hx hb a4 a3 (Nat.not_le.mpr a2) hH.2.2.1 (inR_in hk) hd (kk _ _ _ hH hl rfl)
    · cases h
  · cases h

theorem s_iastore {st : List Value}  (hd : DD q (.iastore) pc nx) (h : step1 q.2.2.2.2.1 (decide (q.1.name = "<init>")) (.iastore) pc nx L st M = some f) (C0 : Ctx w X q p s m args meth c) (hH : Hp w M s.heap H locs) (hl : lvh w ls q.2.2.1 L) (hX : mX M = X) (hn0 : n0 ≤ mn M) (hs0 : s0 ≤ ms M) (hc : mn f.2.2.2 - n0 ≤ R.cells) (hs : ms f.2.2.2 - s0 ≤ R.slots) (kk : KK w X q p l e R s m args below meth c Q n0 s0 f) : GG w p l e R s m args below meth c Q H locs M n0 s0 pc ls st := by
  obtain ⟨hx, hb, hrt, hml, hown, hts, hlk, hnm, hK, hO, hbs, hov0⟩ := C0
  have hov := ov_cat hov0
  obtain ⟨len, hd, hz⟩ := hd
  obtain ⟨rfl, rfl⟩ := hz rfl
  unfold step1 at h
  dsimp only at h
  split at h
  · rename_i x j a st
    split at h
    · rename_i hk
      cases h
      have ha : a < mn M := hH.2.2.2.1 a (by omega)
      refine va_iast hx hb hK hH.1 hH.2.1 hH.2.2.1 a 0 (by rw [wsM_get ha, ent_arrI hk.1 (by omega) (by omega)]) rfl (inR_in hk.2) hd (fun H1 locs1 h1 h2 h3 => kk H1 locs1 ls (hH.put ha rfl rfl ?_ (fun j hj => ent_wI_ne hj) (fun k j' hk2 => byte_wI (hH.2.2.2.2 k j') (fun z => by rw [hk.1] at z; omega) hk2) h1 h2 h3) hl hX)
      rw [← u2_row]
      exact ent_arrI (M := wI M a j.toNatClampNeg x) hk.1 (by omega) (by omega)
    · cases h
  · cases h

theorem s_baload {st : List Value}  (hd : DD q (.baload) pc nx) (h : step1 q.2.2.2.2.1 (decide (q.1.name = "<init>")) (.baload) pc nx L st M = some f) (C0 : Ctx w X q p s m args meth c) (hH : Hp w M s.heap H locs) (hl : lvh w ls q.2.2.1 L) (hX : mX M = X) (hn0 : n0 ≤ mn M) (hs0 : s0 ≤ ms M) (hc : mn f.2.2.2 - n0 ≤ R.cells) (hs : ms f.2.2.2 - s0 ≤ R.slots) (kk : KK w X q p l e R s m args below meth c Q n0 s0 f) : GG w p l e R s m args below meth c Q H locs M n0 s0 pc ls st := by
  obtain ⟨hx, hb, hrt, hml, hown, hts, hlk, hnm, hK, hO, hbs, hov0⟩ := C0
  have hov := ov_cat hov0
  obtain ⟨len, hd, hz⟩ := hd
  obtain ⟨rfl, rfl⟩ := hz rfl
  unfold step1 at h
  dsimp only at h
  split at h
  · rename_i j a st
    split at h
    · rename_i hk
      cases h
      have ha : a < mn M := hH.2.2.2.1 a (by omega)
      rcases hk.1 with hk1 | hk1
      · exact va_bald hx hb hK hH.1 a 1 (by rw [wsM_get ha, ent_arrI hk1 (by omega) (by omega)]) rfl (inR_in hk.2) hd (kk _ _ _ hH hl hX)
      · exact va_zald hx hb hK hH.1 a 2 (by rw [wsM_get ha, ent_arrI hk1 (by omega) (by omega)]) rfl (inR_in hk.2) hd (kk _ _ _ hH hl hX)
    · cases h
  · rename_i j k st
    split at h
    · rename_i hk
      cases h
      obtain ⟨-, ⟨t1, b1, b2, b3⟩, ⟨t2, c1, c2, c3⟩, -, -, ⟨kA, vA, f1, f2, f3, f4, f5, f6, f7⟩, -⟩ := hO
      have kk := kk _ _ _ hH hl hX
      obtain ⟨hk1, hk2⟩ := hk
      have hk2 := inR_in hk2
      show W p l e R s m args below meth c H locs (mn M - n0) (ms M - s0) Q (F0 m _ ls (.int j :: w.2.2.2 k :: st.map (cv w)))
      rcases hk1 with rfl | rfl | rfl
      · rw [b1]
        exact va_tb hx hb b3 hH.2.2.1 hk2 rfl hd kk
      · rw [c1]
        exact va_tb hx hb c3 hH.2.2.1 hk2 rfl hd kk
      · rw [f2]
        exact va_tb hx hb f6 hH.2.2.1 hk2 rfl hd kk
    · cases h
  · cases h

theorem fits_nar (x : Int32) : fits .byte (.int (vp_nar .byte x)) = true := by
  rw [vp_nar_byte]
  exact pk_fb x
theorem s_bastore {st : List Value}  (hd : DD q (.bastore) pc nx) (h : step1 q.2.2.2.2.1 (decide (q.1.name = "<init>")) (.bastore) pc nx L st M = some f) (C0 : Ctx w X q p s m args meth c) (hH : Hp w M s.heap H locs) (hl : lvh w ls q.2.2.1 L) (hX : mX M = X) (hn0 : n0 ≤ mn M) (hs0 : s0 ≤ ms M) (hc : mn f.2.2.2 - n0 ≤ R.cells) (hs : ms f.2.2.2 - s0 ≤ R.slots) (kk : KK w X q p l e R s m args below meth c Q n0 s0 f) : GG w p l e R s m args below meth c Q H locs M n0 s0 pc ls st := by
  obtain ⟨hx, hb, hrt, hml, hown, hts, hlk, hnm, hK, hO, hbs, hov0⟩ := C0
  have hov := ov_cat hov0
  obtain ⟨len, hd, hz⟩ := hd
  obtain ⟨rfl, rfl⟩ := hz rfl
  unfold step1 at h
  dsimp only at h
  split at h
  · rename_i x j a st
    split at h
    · rename_i hin
      split at h
      · rename_i hk
        cases h
        have ha : a < mn M := hH.2.2.2.1 a (by omega)
        refine va_bast hx hb hK hH.1 hH.2.1 hH.2.2.1 a 1 (by rw [wsM_get ha, ent_arrI hk (by omega) (by omega)]) rfl (inR_in hin) hd (fun H1 locs1 h1 h2 h3 => kk H1 locs1 ls (hH.put ha rfl rfl ?_ (fun j hj => ent_wI_ne hj) (fun k j' hk2 => byte_wI (hH.2.2.2.2 k j') (fun _ => fits_nar x) hk2) h1 h2 h3) hl hX)
        rw [← u2_row]
        exact ent_arrI (M := wI M a j.toNatClampNeg (vp_nar .byte x)) hk (by omega) (by omega)
      · split at h
        · rename_i hk
          cases h
          have ha : a < mn M := hH.2.2.2.1 a (by omega)
          refine va_zast hx hb hK hH.1 hH.2.1 hH.2.2.1 a 2 (by rw [wsM_get ha, ent_arrI hk (by omega) (by omega)]) rfl (inR_in hin) hd (fun H1 locs1 h1 h2 h3 => kk H1 locs1 ls (hH.put ha rfl rfl ?_ (fun j hj => ent_wI_ne hj) (fun k j' hk2 => byte_wI (hH.2.2.2.2 k j') (fun z => by rw [hk] at z; omega) hk2) h1 h2 h3) hl hX)
          rw [← u2_row]
          exact ent_arrI (M := wI M a j.toNatClampNeg (vp_nar .boolean x)) hk (by omega) (by omega)
        · cases h
    · cases h
  · cases h

theorem s_aaload {st : List Value}  (hd : DD q (.aaload) pc nx) (h : step1 q.2.2.2.2.1 (decide (q.1.name = "<init>")) (.aaload) pc nx L st M = some f) (C0 : Ctx w X q p s m args meth c) (hH : Hp w M s.heap H locs) (hl : lvh w ls q.2.2.1 L) (hX : mX M = X) (hn0 : n0 ≤ mn M) (hs0 : s0 ≤ ms M) (hc : mn f.2.2.2 - n0 ≤ R.cells) (hs : ms f.2.2.2 - s0 ≤ R.slots) (kk : KK w X q p l e R s m args below meth c Q n0 s0 f) : GG w p l e R s m args below meth c Q H locs M n0 s0 pc ls st := by
  obtain ⟨hx, hb, hrt, hml, hown, hts, hlk, hnm, hK, hO, hbs, hov0⟩ := C0
  have hov := ov_cat hov0
  obtain ⟨len, hd, hz⟩ := hd
  obtain ⟨rfl, rfl⟩ := hz rfl
  unfold step1 at h
  dsimp only at h
  split at h
  · rename_i j a st
    split at h
    · rename_i hk
      cases h
      have ha : a < mn M := hH.2.2.2.1 a (by omega)
      have kk : W p l e R s m args below meth c H locs (mn M - n0) (ms M - s0) Q (F0 m _ ls (cv w (rfv (mR M a j.toNatClampNeg)) :: st.map (cv w))) := kk _ _ _ hH hl hX
      rw [cv_rfv] at kk
      rcases hk.1 with hk1 | hk1 | hk1
      · exact va_aldq hx hb hK hH.1 a 3 (f := fun i => rfb w.1 (mR M a i)) (by rw [wsM_get ha, ent_arrR hk1 (by omega)]) rfl (inR_in hk.2) hd kk
      · exact va_aldq hx hb hK hH.1 a 4 (f := fun i => rfb w.1 (mR M a i)) (by rw [wsM_get ha, ent_arrR hk1 (by omega)]) rfl (inR_in hk.2) hd kk
      · exact va_aldq hx hb hK hH.1 a 5 (f := fun i => rfb w.1 (mR M a i)) (by rw [wsM_get ha, ent_arrR hk1 (by omega)]) rfl (inR_in hk.2) hd kk
    · cases h
  · cases h

theorem s_aastore {st : List Value}  (hd : DD q (.aastore) pc nx) (h : step1 q.2.2.2.2.1 (decide (q.1.name = "<init>")) (.aastore) pc nx L st M = some f) (C0 : Ctx w X q p s m args meth c) (hH : Hp w M s.heap H locs) (hl : lvh w ls q.2.2.1 L) (hX : mX M = X) (hn0 : n0 ≤ mn M) (hs0 : s0 ≤ ms M) (hc : mn f.2.2.2 - n0 ≤ R.cells) (hs : ms f.2.2.2 - s0 ≤ R.slots) (kk : KK w X q p l e R s m args below meth c Q n0 s0 f) : GG w p l e R s m args below meth c Q H locs M n0 s0 pc ls st := by
  obtain ⟨hx, hb, hrt, hml, hown, hts, hlk, hnm, hK, hO, hbs, hov0⟩ := C0
  have hov := ov_cat hov0
  obtain ⟨len, hd, hz⟩ := hd
  obtain ⟨rfl, rfl⟩ := hz rfl
  unfold step1 at h
  dsimp only at h
  split at h
  · rename_i b j a st
    split at h
    · rename_i hk
      cases h
      obtain ⟨hk0, hin⟩ := hk
      have ha : a < mn M := hH.2.2.2.1 a (by omega)
      have hb2 : b < mn M := hH.2.2.2.1 b (by omega)
      have go : ∀ (kd : Nat), mK M a = kd → 103 ≤ kd → ∀ (H1 : Heap) (locs1 : List Loc), va_P w.2.1 classes ((wsM w M).set a (w.1 + a, .inl (w.2.2.1 kd, mL M a, .inr (.inr (.inr (.inr (va_up (fun i => rfb w.1 (mR M a i)) j.toNatClampNeg (some (w.1 + b))))))))) H1 → va_D (wA0 w) ((wsM w M).set a (w.1 + a, .inl (w.2.2.1 kd, mL M a, .inr (.inr (.inr (.inr (va_up (fun i => rfb w.1 (mR M a i)) j.toNatClampNeg (some (w.1 + b))))))))) → va_S (wA0 w) s.heap H1 locs1 → W p l e R s m args below meth c H1 locs1 (mn M - n0) (ms M - s0) Q (F0 m (pc + 1) ls (st.map (cv w))) := by
        intro kd hkd h103 H1 locs1 h1 h2 h3
        refine kk H1 locs1 ls (hH.put ha rfl rfl ?_ (fun j hj => ent_wR_ne hj) (fun k j' hk2 => hH.2.2.2.2 k j' hk2) h1 h2 h3) hl hX
        rw [← u2_rowR]
        exact ent_arrR (M := wR M a j.toNatClampNeg (some b)) hkd h103
      rcases hk0 with ⟨h1, h2⟩ | ⟨h1, h2⟩ | ⟨h1, h2⟩
      · exact va_astq hx hb hK hH.1 hH.2.1 hH.2.2.1 a 3 b 0 (r := (RX0, TX0, 7)) (f := fun i => rfb w.1 (mR M a i)) (by rw [wsM_get ha, ent_arrR h1 (by omega)]) rfl (by rw [wsM_get hb2, ent_obj (ci := 0) h2 (by omega)]) rfl (inR_in hin) hd (go 103 h1 (by omega))
      · exact va_astq hx hb hK hH.1 hH.2.1 hH.2.2.1 a 4 b 2 (r := (RX2, TX2, 7)) (f := fun i => rfb w.1 (mR M a i)) (by rw [wsM_get ha, ent_arrR h1 (by omega)]) rfl (by rw [wsM_get hb2, ent_obj (ci := 2) h2 (by omega)]) rfl (inR_in hin) hd (go 104 h1 (by omega))
      · exact va_astq hx hb hK hH.1 hH.2.1 hH.2.2.1 a 5 b 5 (r := (RX5, TX5, 14)) (f := fun i => rfb w.1 (mR M a i)) (by rw [wsM_get ha, ent_arrR h1 (by omega)]) rfl (by rw [wsM_get hb2, ent_obj (ci := 5) h2 (by omega)]) rfl (inR_in hin) hd (go 105 h1 (by omega))
    · cases h
  · cases h

theorem s_arraylength {st : List Value}  (hd : DD q (.arraylength) pc nx) (h : step1 q.2.2.2.2.1 (decide (q.1.name = "<init>")) (.arraylength) pc nx L st M = some f) (C0 : Ctx w X q p s m args meth c) (hH : Hp w M s.heap H locs) (hl : lvh w ls q.2.2.1 L) (hX : mX M = X) (hn0 : n0 ≤ mn M) (hs0 : s0 ≤ ms M) (hc : mn f.2.2.2 - n0 ≤ R.cells) (hs : ms f.2.2.2 - s0 ≤ R.slots) (kk : KK w X q p l e R s m args below meth c Q n0 s0 f) : GG w p l e R s m args below meth c Q H locs M n0 s0 pc ls st := by
  obtain ⟨hx, hb, hrt, hml, hown, hts, hlk, hnm, hK, hO, hbs, hov0⟩ := C0
  have hov := ov_cat hov0
  obtain ⟨len, hd, hz⟩ := hd
  obtain ⟨rfl, rfl⟩ := hz rfl
  unfold step1 at h
  dsimp only at h
  split at h
  · rename_i a st
    split at h
    · rename_i hk
      cases h
      have ha : a < mn M := hH.2.2.2.1 a (by omega)
      have kk := kk _ _ _ hH hl hX
      have hcs : mK M a = 100 ∨ mK M a = 101 ∨ mK M a = 102 ∨ mK M a = 103 ∨ mK M a = 104 ∨ mK M a = 105 := by omega
      rcases hcs with h1 | h1 | h1 | h1 | h1 | h1
      · exact va_alen (x := (mL M a, .inl (mI M a))) hx hb hK hH.1 a 0 (by rw [wsM_get ha, ent_arrI h1 (by omega) (by omega)]) rfl rfl hd kk
      · exact va_alen (x := (mL M a, .inl (mI M a))) hx hb hK hH.1 a 1 (by rw [wsM_get ha, ent_arrI h1 (by omega) (by omega)]) rfl rfl hd kk
      · exact va_alen (x := (mL M a, .inl (mI M a))) hx hb hK hH.1 a 2 (by rw [wsM_get ha, ent_arrI h1 (by omega) (by omega)]) rfl rfl hd kk
      · exact va_alen (x := (mL M a, .inr (.inr (.inr (.inr (fun j => rfb w.1 (mR M a j))))))) hx hb hK hH.1 a 3 (by rw [wsM_get ha, ent_arrR h1 (by omega)]) rfl rfl hd kk
      · exact va_alen (x := (mL M a, .inr (.inr (.inr (.inr (fun j => rfb w.1 (mR M a j))))))) hx hb hK hH.1 a 4 (by rw [wsM_get ha, ent_arrR h1 (by omega)]) rfl rfl hd kk
      · exact va_alen (x := (mL M a, .inr (.inr (.inr (.inr (fun j => rfb w.1 (mR M a j))))))) hx hb hK hH.1 a 5 (by rw [wsM_get ha, ent_arrR h1 (by omega)]) rfl rfl hd kk
    · cases h
  · rename_i k st
    split at h
    · rename_i hk
      subst hk
      cases h
      obtain ⟨⟨b, a1, a2, a3, a4⟩, -⟩ := hO
      show W p l e R s m args below meth c H locs (mn M - n0) (ms M - s0) Q (F0 m _ ls (w.2.2.2 0 :: st.map (cv w)))
      rw [a1]
      subst hX
      exact va_slen hx hb a4 a3 (Nat.not_le.mpr a2) hH.2.2.1 hd (kk _ _ _ hH hl rfl)
    · split at h
      · rename_i hk
        subst hk
        cases h
        obtain ⟨-, -, -, -, -, ⟨kA, vA, f1, f2, f3, f4, f5, f6, f7⟩, -⟩ := hO
        show W p l e R s m args below meth c H locs (mn M - n0) (ms M - s0) Q (F0 m _ ls (w.2.2.2 4 :: st.map (cv w)))
        rw [f2]
        exact va_tlen hx hb f6 hH.2.2.1 rfl hd (kk _ _ _ hH hl hX)
      · cases h
  · cases h

theorem W.szb {cells slots : Nat} {g : JFrame} (k : H.size ≤ s.heap.size + cells → W p l e R s m args below meth c H locs cells slots Q g) : W p l e R s m args below meth c H locs cells slots Q g := by
  intro T hT Y
  have h := Y.heapSize
  rw [hT] at h
  exact k h T hT Y
theorem Hp.size (hH : Hp w M s.heap H locs) (hsb : s.heap.size = w.1 + n0) (hn0 : n0 ≤ mn M) (hle : H.size ≤ s.heap.size + (mn M - n0)) : H.size = w.1 + mn M := by
  have h1 := hH.2.2.1.1
  by_cases hz : mn M = 0
  · omega
  · have h2 := (hH.1 (mn M - 1) _ (wsM_get (by omega))).lt
    dsimp only at h2
    omega
theorem Hp.newc {kd len : Nat} {H1 : Heap} {e : va_E} (hH : Hp w M s.heap H locs) (hkd : kd ≠ 0) (he : ent w (nC M kd len) (mn M) = e) (h1 : va_P w.2.1 classes (wsM w M ++ [(w.1 + mn M, e)]) H1) (h2 : va_D (wA0 w) (wsM w M ++ [(w.1 + mn M, e)])) (h3 : va_S (wA0 w) s.heap H1 locs) : Hp w (nC M kd len) s.heap H1 locs := by
  rw [wsM_push (M' := nC M kd len) rfl he (fun j hj => ent_nC_ne hj)] at h1 h2
  refine ⟨h1, h2, h3, fun k hk => ?_, fun k j hk => ?_⟩
  · show k < mn M + 1
    by_cases hz : k = mn M
    · omega
    · have : mK (nC M kd len) k = mK M k := if_neg hz
      rw [this] at hk
      exact Nat.lt_succ_of_lt (hH.2.2.2.1 k hk)
  · by_cases hz : k = mn M
    · have : mI (nC M kd len) k j = 0 := if_pos hz
      rw [this]
      rfl
    · have h4 : mK (nC M kd len) k = mK M k := if_neg hz
      have h5 : mI (nC M kd len) k j = mI M k j := if_neg hz
      rw [h5]
      rw [h4] at hk
      exact hH.2.2.2.2 k j hk
theorem new_row {kd len : Nat} : mI (nC M kd len) (mn M) = fun _ => 0 := funext fun _ => if_pos rfl
theorem new_rowJ {kd len : Nat} : mJ (nC M kd len) (mn M) = fun _ => 0 := funext fun _ => if_pos rfl
theorem new_rowR {kd len : Nat} : mR (nC M kd len) (mn M) = fun _ => none := funext fun _ => if_pos rfl
theorem new_K {kd len : Nat} : mK (nC M kd len) (mn M) = kd := if_pos rfl
theorem new_L {kd len : Nat} : mL (nC M kd len) (mn M) = len := if_pos rfl
theorem Hp.kept {H1 : Heap} (hH : Hp w M s.heap H locs) (hz : H.size ≤ H1.size) (o1 : ∀ q : Nat, q < H.size → H1[q]? = H[q]?) : va_P w.2.1 classes (wsM w M) H1 ∧ va_S (wA0 w) s.heap H1 locs :=
  ⟨hH.1.kept (fun k x hx => o1 x.1 ((hH.1 k x hx).lt)), Nat.le_trans hH.2.2.1.1 hz, fun x h1 h2 => (o1 x (Nat.lt_of_lt_of_le h1 hH.2.2.1.1)).trans (hH.2.2.1.2.1 x h1 h2), hH.2.2.1.2.2⟩
theorem one_P {D : va_G} {cl : List vw_C} {a : Nat} {e : va_E} {H1 : Heap} (h : va_at D cl (a, e) H1) : va_P D cl [(a, e)] H1 := by
  intro k x hx
  have hz : k < 1 := (List.getElem?_eq_some_iff.mp hx).1
  rw [show k = 0 by omega] at hx
  cases hx
  exact h
theorem cty_dflt {ci j : Nat} {r : vw_C} (h : classes[ci]? = some r) (hj : j < r.2.2) {kd len : Nat} : defaultValue (ftyOf ci j) = slotV w (nC M kd len) ci (mn M) j := by
  have h1 := cty_ok h hj
  have hI : mI (nC M kd len) (mn M) j = 0 := if_pos rfl
  have hJ : mJ (nC M kd len) (mn M) j = 0 := if_pos rfl
  have hR : mR (nC M kd len) (mn M) j = none := if_pos rfl
  unfold slotV
  rw [hI, hJ, hR]
  generalize cty ci j = t at h1
  cases hq : ftyOf ci j <;> rw [hq] at h1 <;> (unfold ctyOK at h1; split at h1) <;> first | rfl | (rename_i z; cases z) | cases h1 | (rename_i z _; cases z)
theorem s_new {st : List Value} {k : Nat} (hd : DD q (.new k) pc nx) (h : step1 q.2.2.2.2.1 (decide (q.1.name = "<init>")) (.new k) pc nx L st M = some f) (C0 : Ctx w X q p s m args meth c) (hH : Hp w M s.heap H locs) (hl : lvh w ls q.2.2.1 L) (hX : mX M = X) (hsb : s.heap.size = w.1 + n0) (hn0 : n0 ≤ mn M) (hs0 : s0 ≤ ms M) (hc : mn f.2.2.2 - n0 ≤ R.cells) (hs : ms f.2.2.2 - s0 ≤ R.slots) (kk : KK w X q p l e R s m args below meth c Q n0 s0 f) : GG w p l e R s m args below meth c Q H locs M n0 s0 pc ls st := by
  obtain ⟨hx, hb, hrt, hml, hown, hts, hlk, hnm, hK, hO, hbs, hov0⟩ := C0
  have hov := ov_cat hov0
  obtain ⟨len, hd, hz⟩ := hd
  obtain ⟨rfl, rfl⟩ := hz rfl
  unfold step1 at h
  dsimp only at h
  split at h
  · rename_i g hg
    cases h
    refine W.szb (fun hle => ?_)
    have hsz := hH.size hsb hn0 hle
    have h1 := List.all_eq_true.mp news_ok _ (look_mem hg)
    unfold newOK at h1
    dsimp only at h1
    split at h1
    · rename_i r hr
      rw [Bool.and_eq_true, Bool.and_eq_true] at h1
      obtain ⟨⟨h1, h2⟩, h3⟩ := h1
      obtain ⟨c1, c2, c3, c4⟩ := cls_ok _ r hr
      have hci : g.1 < 14 := (List.getElem?_eq_some_iff.mp hr).1
      have hKn := hK.1 _ _ hr
      have hc : mn M + 1 - n0 ≤ R.cells := hc
      have hs : ms M + cN g.1 - s0 ≤ R.slots := hs
      refine W.newcK hx hb hown (hts _ (hasW_mem h1)) (hts _ (hasW_mem h2)) (hts _ (hasW_mem h3)) rfl hd (by omega) (by omega) hKn.2.1 hsz fun H1 kC hkC e1 z1 o1 => ?_
      have hk2 := hH.kept (H1 := H1) (by omega) (fun q hq => o1 q (by omega))
      have hnw : va_at w.2.1 classes (w.1 + mn M, .inr (g.1, (List.range (cN g.1)).map (fun j => slotV w (nC M (g.1 + 1) (cN g.1)) g.1 (mn M) j))) H1 := by
        refine ⟨r, hr, (u_born (ftyOf g.1) hts c1 hKn hkC e1 c2).to (fun j hj => ?_)⟩
        show _ = (((List.range (cN g.1)).map (fun j => slotV w (nC M (g.1 + 1) (cN g.1)) g.1 (mn M) j)).getD j .null)
        rw [List.getD_eq_getElem?_getD, map_get (by rw [c4]; exact hj)]
        exact cty_dflt hr hj
      have hnew := Hp.newc (M := M) (kd := g.1 + 1) (len := cN g.1) hH (by omega) (ent_obj new_K hci) (hk2.1.app (one_P hnw)) (hH.2.1.push hH.1 hsz.symm (by show w.1 ≤ w.1 + mn M; omega)) hk2.2
      refine W.cs (cells' := mn M + 1 - n0) (slots' := ms M + cN g.1 - s0) (by omega) (by omega) ?_
      exact kk H1 locs ls hnew hl hX
    · cases h1
  · cases h

theorem ac_int : Cond.arrayClass .int ∈ ALL := List.mem_filter.mpr ⟨by decide +kernel, rfl⟩
theorem ac_byte : Cond.arrayClass .byte ∈ ALL := List.mem_filter.mpr ⟨by decide +kernel, rfl⟩
theorem ac_bool : Cond.arrayClass .boolean ∈ ALL := List.mem_filter.mpr ⟨by decide +kernel, rfl⟩
theorem newa_core {x : Int32} {st : List Value} {at' : ArrayType} {kd t0 : Nat} {ty : FieldType} (hx : p.tables.exec = Jvm.exec) (hb : c.code = q.2.1) (hts : ∀ x ∈ ALL, x.before args s = true) (hK : va_K w.2.1 classes (tysW w) s) (hH : Hp w M s.heap H locs) (hty : newarray.typeOf at' = ty) (hac : Cond.arrayClass ty ∈ ALL) (ht : (tysW w)[t0]? = some (w.2.2.1 kd, ty)) (hkd : 100 ≤ kd ∧ kd < 103) (hdv : defaultValue ty = .int 0) (hob : ∀ U cA, va_RA U cA ty → U.vm.findClass ("[" ++ ty.toString) = some cA) (hcb : componentBytes ty ≤ 4)
    (hn : ¬ x < 0) (hN : x.toNatClampNeg ≤ 1000000) (hsz : H.size = w.1 + mn M) (hn0 : n0 ≤ mn M) (hs0 : s0 ≤ ms M) (hc : mn M + 1 - n0 ≤ R.cells) (hs : ms M + x.toNatClampNeg - s0 ≤ R.slots) (hd : decode q.2.1 pc = .ok (.newarray at', 2))
    (kk : ∀ (H' : Heap), Hp w (nC M kd x.toNatClampNeg) s.heap H' locs → W p l e R s m args below meth c H' locs (mn M + 1 - n0) (ms M + x.toNatClampNeg - s0) Q (F0 m (pc + 2) ls (.ref (w.1 + mn M) :: st.map (cv w)))) : W p l e R s m args below meth c H locs (mn M - n0) (ms M - s0) Q (F0 m pc ls (.int x :: st.map (cv w))) := by
  subst hty
  refine va_newaK hx hb (hts _ hac) rfl hd rfl hn rfl (Nat.le_trans (Nat.mul_le_mul hN hcb) (by omega)) (by omega) (by omega) hsz fun H1 cA e1 z1 o1 hAr hNm => ?_
  have hk2 := hH.kept (H1 := H1) (by omega) (fun q hq => o1 q (by omega))
  have hcA : cA = w.2.2.1 kd := by
    have h1 := hob _ _ (hK.2 _ _ ht).2
    rw [hNm] at h1
    exact Option.some.inj h1
  subst hcA
  have he : ent w (nC M kd x.toNatClampNeg) (mn M) = .inl (w.2.2.1 kd, x.toNatClampNeg, .inl (fun _ => 0)) := by
    rw [ent_arrI new_K hkd.1 hkd.2, new_L, new_row]
  have hnw : va_at w.2.1 classes (w.1 + mn M, .inl (w.2.2.1 kd, x.toNatClampNeg, .inl (fun _ => 0))) H1 := by
    show H1[_]? = some (vp_cell _ _)
    rw [vp_cell_i, e1, hdv]
  have hnew := Hp.newc (M := M) (kd := kd) (len := x.toNatClampNeg) hH (by omega) he (hk2.1.app (one_P hnw)) (hH.2.1.push hH.1 hsz.symm (by show w.1 ≤ w.1 + mn M; omega)) hk2.2
  refine W.cs (cells' := mn M + 1 - n0) (slots' := ms M + x.toNatClampNeg - s0) (by omega) (by omega) ?_
  exact kk H1 hnew
theorem s_newarray {st : List Value} {t : ArrayType} (hd : DD q (.newarray t) pc nx) (h : step1 q.2.2.2.2.1 (decide (q.1.name = "<init>")) (.newarray t) pc nx L st M = some f) (C0 : Ctx w X q p s m args meth c) (hH : Hp w M s.heap H locs) (hl : lvh w ls q.2.2.1 L) (hX : mX M = X) (hsb : s.heap.size = w.1 + n0) (hn0 : n0 ≤ mn M) (hs0 : s0 ≤ ms M) (hc : mn f.2.2.2 - n0 ≤ R.cells) (hs : ms f.2.2.2 - s0 ≤ R.slots) (kk : KK w X q p l e R s m args below meth c Q n0 s0 f) : GG w p l e R s m args below meth c Q H locs M n0 s0 pc ls st := by
  obtain ⟨hx, hb, hrt, hml, hown, hts, hlk, hnm, hK, hO, hbs, hov0⟩ := C0
  have hov := ov_cat hov0
  obtain ⟨len, hd, hz⟩ := hd
  obtain ⟨rfl, rfl⟩ := hz rfl
  unfold step1 at h
  dsimp only at h
  split at h
  · rename_i x st
    split at h
    · rename_i hk
      cases h
      refine W.szb (fun hle => ?_)
      have hsz := hH.size hsb hn0 hle
      cases t with
      | int => exact newa_core (kd := 100) (t0 := 0) (ty := .int) hx hb hts hK hH rfl ac_int rfl (by omega) rfl (fun U cA z => z) (by decide) hk.1 hk.2.1 hsz hn0 hs0 hc hs hd (fun H' hH' => kk H' locs ls hH' hl hX)
      | byte => exact newa_core (kd := 101) (t0 := 1) (ty := .byte) hx hb hts hK hH rfl ac_byte rfl (by omega) rfl (fun U cA z => z) (by decide) hk.1 hk.2.1 hsz hn0 hs0 hc hs hd (fun H' hH' => kk H' locs ls hH' hl hX)
      | boolean => exact newa_core (kd := 102) (t0 := 2) (ty := .boolean) hx hb hts hK hH rfl ac_bool rfl (by omega) rfl (fun U cA z => z) (by decide) hk.1 hk.2.1 hsz hn0 hs0 hc hs hd (fun H' hH' => kk H' locs ls hH' hl hX)
      | _ => exact absurd rfl hk.2.2
    · cases h
  · cases h

theorem anews_k : ∀ f ∈ anews, f.2.1 = 103 ∨ f.2.1 = 104 ∨ f.2.1 = 105 := by decide +kernel
theorem ak_ty (w : Wp) : ∀ kd, kd = 103 ∨ kd = 104 ∨ kd = 105 → (tysW w)[kd - 100]? = some (w.2.2.1 kd, .object (akC kd)) := by
  intro kd h
  rcases h with rfl | rfl | rfl <;> rfl
theorem s_anewarray {st : List Value} {k : Nat} (hd : DD q (.anewarray k) pc nx) (h : step1 q.2.2.2.2.1 (decide (q.1.name = "<init>")) (.anewarray k) pc nx L st M = some f) (C0 : Ctx w X q p s m args meth c) (hH : Hp w M s.heap H locs) (hl : lvh w ls q.2.2.1 L) (hX : mX M = X) (hsb : s.heap.size = w.1 + n0) (hn0 : n0 ≤ mn M) (hs0 : s0 ≤ ms M) (hc : mn f.2.2.2 - n0 ≤ R.cells) (hs : ms f.2.2.2 - s0 ≤ R.slots) (kk : KK w X q p l e R s m args below meth c Q n0 s0 f) : GG w p l e R s m args below meth c Q H locs M n0 s0 pc ls st := by
  obtain ⟨hx, hb, hrt, hml, hown, hts, hlk, hnm, hK, hO, hbs, hov0⟩ := C0
  have hov := ov_cat hov0
  obtain ⟨len, hd, hz⟩ := hd
  obtain ⟨rfl, rfl⟩ := hz rfl
  unfold step1 at h
  dsimp only at h
  split at h
  · rename_i x st
    split at h
    · rename_i g hg
      split at h
      · rename_i hk
        cases h
        refine W.szb (fun hle => ?_)
        have hsz := hH.size hsb hn0 hle
        have h1 := List.all_eq_true.mp anews_ok _ (look_mem hg)
        have hkd := anews_k _ (look_mem hg)
        unfold anewOK at h1
        dsimp only at h1 hkd
        rw [Bool.and_eq_true] at h1
        have hc : mn M + 1 - n0 ≤ R.cells := hc
        have hs : ms M + x.toNatClampNeg - s0 ≤ R.slots := hs
        have hao : (Cond.arrayOver (.object (akC g.1))).before args s = true := by
          obtain ⟨-, -, -, -, -, -, -, i1, i2, i3⟩ := hO
          rcases hkd with h | h | h <;> rw [h]
          · exact va_AO.use i1
          · exact va_AO.use i2
          · exact va_AO.use i3
        refine W.anew hx hb hown (hts _ (hasW_mem h1.1)) hao rfl hd rfl hk.1 (by omega) (by omega) (by omega) fun cA kA comp f1 f2 f3 f4 => ?_
        generalize hH1 : H.push ({ cls := cA, slots := Array.replicate x.toNatClampNeg .null, vm := .none } : Cell) = H1
        have z1 : H1.size = H.size + 1 := by rw [← hH1, Array.size_push]
        have e1 : H1[H.size]? = some (arrV cA x.toNatClampNeg (fun _ => .null)) := by rw [← hH1, Array.getElem?_push_size, ← arrV_new]
        have o1 : ∀ q : Nat, q < H.size → H1[q]? = H[q]? := fun q hq => by rw [← hH1, Array.getElem?_push, if_neg (Nat.ne_of_lt hq)]
        have hk2 := hH.kept (H1 := H1) (by omega) o1
        have hcA : cA = w.2.2.1 g.1 := by
          obtain ⟨kA2, comp2, -, -, -, h4⟩ := (hK.2 _ _ (ak_ty w g.1 hkd)).2
          rw [f1] at h4
          exact Option.some.inj h4
        subst hcA
        have he : ent w (nC M g.1 x.toNatClampNeg) (mn M) = .inl (w.2.2.1 g.1, x.toNatClampNeg, .inr (.inr (.inr (.inr (fun _ => none))))) := by
          rw [ent_arrR new_K (by omega), new_L, new_rowR]
          rfl
        have hnw : va_at w.2.1 classes (w.1 + mn M, .inl (w.2.2.1 g.1, x.toNatClampNeg, .inr (.inr (.inr (.inr (fun _ => none)))))) H1 := by
          show H1[_]? = some (vp_cell _ _)
          rw [vp_cell_q, ← hsz, e1]
          rfl
        have hnew := Hp.newc (M := M) (kd := g.1) (len := x.toNatClampNeg) hH (by omega) he (hk2.1.app (one_P hnw)) (hH.2.1.push hH.1 hsz.symm (by show w.1 ≤ w.1 + mn M; omega)) hk2.2
        refine W.cs (cells' := mn M + 1 - n0) (slots' := ms M + x.toNatClampNeg - s0) (by omega) (by omega) ?_
        rw [hsz]
        exact kk H1 locs ls hnew hl hX
      · cases h
    · cases h
  · cases h

end STEP7
