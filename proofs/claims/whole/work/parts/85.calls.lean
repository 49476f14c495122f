/-! CALLS: what holds between them -/
def shX (T : Tl) : Prop := tK T 0 = 12 ∧ tR T 0 0 = some 1 ∧ tR T 0 1 = some 3 ∧ tR T 0 2 = some 5 ∧ tR T 0 3 = some 10 ∧ tR T 0 4 = some 488 ∧ tR T 0 5 = some 489 ∧ tK T 1 = 14 ∧ tK T 3 = 14 ∧ tK T 5 = 8 ∧ tR T 5 0 = some 1 ∧ tR T 5 1 = some 6 ∧ tR T 5 2 = some 7 ∧ tR T 5 3 = some 8 ∧ tR T 5 4 = some 9 ∧ (∀ a, 6 ≤ a → a < 10 → tK T a = 100 ∧ tL T a = 4) ∧ tK T 488 = 7 ∧ tR T 488 0 = some 10 ∧ tK T 489 = 2 ∧ tR T 489 0 = some 10 ∧ tR T 489 1 = some 490 ∧ tR T 489 2 = some 491 ∧ tK T 490 = 100 ∧ tL T 490 = 8 ∧ tK T 491 = 100 ∧ tL T 491 = 8
/-- a StringBuilder -/
def SbC (I : Iw) (T : Tl) (p : Nat) (l : List Int32) : Prop := ∃ tv, tR T p 0 = some tv ∧ tK T tv = 101 ∧ (tv = p + 1 ∨ 550 ≤ tv) ∧ tv < tN T ∧ l.length ≤ tL T tv ∧ 16 ≤ tL T tv ∧ tL T tv ≤ 1000 ∧ I p 1 = nI 0 ∧ I p 3 = nI l.length ∧ ∀ j (h : j < l.length), I tv j = l[j]
def ExC (I : Iw) (x : List (Nat × Nat)) : Prop := I 489 3 = nI x.length ∧ ∀ j (h : j < x.length), I 490 j = nI x[j].1 ∧ I 491 j = nI x[j].2
/-- a record followed from operator o on, without channels -/
def flw (E : Env) : Nat → Nat → Fin 16 → Int32 → (Nat → Kst) → Nat → Kst
  | 0, _, _, _, f => f
  | d + 1, o, k, v, f => if o ≤ eN E + 1 then (proc (eK E o) (eA E o) (eB E o) (f o k) k v).1.foldl (fun g x => flw E d (o + 1) x.1 x.2 g) (upw f o (fun k' => if k' = k then (proc (eK E o) (eA E o) (eB E o) (f o k) k v).2 else f o k')) else f
/-- what the first m inputs lead to -/
def plnK (E : Env) (m : Nat) : Nat → Kst := ((eI E).take m).foldl (fun f x => flw E 8 1 x.1 x.2 f) (fun _ _ => none)
def PlC (I : Iw) (E : Env) : Prop := ∃ m, m ≤ (eI E).length ∧ I 488 1 = nI m ∧ (∀ o, o ≤ eN E + 1 → KyC I (20 + 33 * o + 11) (plnK E m o)) ∧ ∀ o, o < 6 → ∃ f, KyC I (20 + 33 * o + 11) f
/-- the rows for the plain run's list of an operator -/
def PrC (I : Iw) : Prop := ∀ o, o < 6 → ∃ l, Rng I (20 + 33 * o + 14) 4 l
def nEq (T : Tl) : Prop := ∀ tv wv, tR T 1 0 = some tv → tR T 3 0 = some wv → tv ≠ wv
def SC (S : Sy) (I : Iw) (T : Tl) : Prop := shSm T ∧ shX T ∧ 550 ≤ tN T ∧ Rm T ∧ nEq T ∧ (∃ g, CT (yE S) (yD S) g (yQ S) I T) ∧ SbC I T 1 (yT S) ∧ SbC I T 3 (yW S) ∧ ExC I (yX S) ∧ PlC I (yE S) ∧ PrC I
def TxM (I : Iw) (l : List Int32) : Prop := I 492 1 = nI l.length ∧ ∀ j (h : j < l.length), I 493 j = l[j]
def WrM (I : Iw) (l : List Int32) : Prop := I 492 80 = nI l.length ∧ ∀ j (h : j < l.length), I 549 j = l[j]
def ExM (I : Iw) (x : List (Nat × Nat)) : Prop := I 492 77 = nI x.length ∧ ∀ j (h : j < x.length), I 547 j = nI x[j].1 ∧ I 548 j = nI x[j].2
def SM (S : Sy) (I : Iw) (T : Tl) : Prop := MR (yE S) (yD S) (yQ S) (eQ (yE S)) (eT (yE S)) I T ∧ TxM I (yT S) ∧ WrM I (yW S) ∧ ExM I (yX S)
/-- the numbers of a stage fit two digits -/
def okB (E : Env) : Prop := ∀ o, 1 ≤ o → o ≤ eN E → (-99 ≤ (eA E o).toInt ∧ (eA E o).toInt ≤ 99) ∧ (-99 ≤ (eB E o).toInt ∧ (eB E o).toInt ≤ 99)
def chk (l : List Int32) : Prop := ∀ x, x ∈ l → ∃ c, c < 128 ∧ x = nI c
def PD (S : Sy) (k : Nat) : Prop := WD (yE S) (yD S) (yQ S) k ∧ okB (yE S) ∧ ((yT S).length ≤ 60 ∧ chk (yT S)) ∧ ((yW S).length ≤ 80 ∧ chk (yW S)) ∧ (yX S).length ≤ 8
/-- what a call of the class keeps of the reference -/
def KP (I : Iw) (T : Tl) (I' : Iw) (T' : Tl) : Prop := (∀ a, 492 ≤ a → a < 550 → I' a = I a) ∧ tJ T' 492 = tJ T 492 ∧ (shM T → shM T') ∧ tX T' = tX T
/-- what a call of the reference keeps of the class -/
def MF (I : Iw) (T : Tl) (I' : Iw) (T' : Tl) : Prop := (∀ a, (a < 492 ∨ 549 < a) → I' a = I a) ∧ JM T T'
section
variable {T T' : Tl} {I I' : Iw} {E : Env} {D : Dy} {Q : Slow} {S : Sy} {g : Nat → Kst} {o i j s c r tk k : Nat}
theorem KP_rf : KP I T I T := ⟨fun _ _ _ => rfl, rfl, id, rfl⟩
theorem KP_tr {I1 I2 : Iw} {T1 T2 : Tl} (h1 : KP I T I1 T1) (h2 : KP I1 T1 I2 T2) : KP I T I2 T2 := ⟨fun a g1 g2 => (h2.1 a g1 g2).trans (h1.1 a g1 g2), h2.2.1.trans h1.2.1, fun h => h2.2.2.1 (h1.2.2.1 h), h2.2.2.2.trans h1.2.2.2⟩
theorem KP_row (h : ∀ a, 492 ≤ a → a < 550 → I' a = I a) : KP I T I' T := ⟨h, rfl, id, rfl⟩
theorem MF_rf : MF I T I T := ⟨fun _ _ => rfl, JM_rf⟩
theorem MF_tr {I1 I2 : Iw} {T1 T2 : Tl} (h1 : MF I T I1 T1) (h2 : MF I1 T1 I2 T2) : MF I T I2 T2 := ⟨fun a h => (h2.1 a h).trans (h1.1 a h), JM_tr h1.2 h2.2⟩
theorem MF_row (h : ∀ a, (a < 492 ∨ 549 < a) → I' a = I a) : MF I T I' T := ⟨h, JM_rf⟩
theorem MF_f {j : Nat} {v : Int32} {a : Nat} (h : 492 ≤ a ∧ a < 550) : MF I T (u2 I a j v) T := MF_row (fun b hb => u2_ne (by omega))
theorem MF_FM (f : FM I I') (f2 : ∀ a, 500 ≤ a → a ≤ 540 → True) (hJ : JM T T') : MF I T I' T' := ⟨fun a h => f.1 a (by omega) (by omega), hJ⟩
theorem CT_row (hn : eN E ≤ 4) (hE : okE E) (h : CT E D g Q I T) (f : ∀ a, (a < 492 ∨ 549 < a) → I' a = I a) : CT E D g Q I' T := by
  obtain ⟨h1, h2, h3, h4, h5, h6, h7, h8, h9, h10, h11⟩ := h
  exact ⟨CfC_cg h1 hn (by rw [f 10 (by omega)]) (f 11 (by omega)) (fun o ho j _ _ => by rw [f _ (by omega)]), ChsC_cg h2 (fun a _ _ => f a (by omega)), InsC_cg h3 (fun a _ _ _ => f a (by omega)), KsC_cg h4 (fun a _ _ _ _ => f a (by omega)), PeC_cg h5 (fun a _ _ _ _ => f a (by omega)), PgC_cg hE h6 (fun o i ho hi => by rw [f _ (by omega)]), StC_cg h7 (fun o ho j _ _ => by rw [f _ (by omega)]), ScC_cg h8 (f 10 (by omega)), NpC_cg h9 (fun a _ _ => f a (by omega)), LaC_cg h10 (f 18 (by omega)) (fun a ha => f a (by omega)), VsC_cg h11 (fun a _ _ _ _ => f a (by omega)) (fun o i ho hi => by rw [f _ (by omega)]) (by rw [f 10 (by omega)]; exact ⟨rfl, rfl, rfl, rfl, rfl⟩)⟩
theorem SbC_row {p : Nat} {l : List Int32} (h : SbC I T p l) (hp : p < 491) (f : ∀ a, (a < 492 ∨ 549 < a) → I' a = I a) : SbC I' T p l := by
  obtain ⟨tv, h1, h2, h3, h4, h5, h6, h7, h8, h9, h10⟩ := h
  refine ⟨tv, h1, h2, h3, h4, h5, h6, h7, ?_, ?_, fun j hj => ?_⟩
  · rw [f p (by omega)]; exact h8
  · rw [f p (by omega)]; exact h9
  · rw [f tv (by omega)]; exact h10 j hj
theorem PlC_row (hE : okE E) (h : PlC I E) (f : ∀ a, (a < 492 ∨ 549 < a) → I' a = I a) : PlC I' E := by
  obtain ⟨m, h1, h2, h3, h4⟩ := h
  have n4 := hE.1
  refine ⟨m, h1, by rw [f 488 (by omega)]; exact h2, fun o ho => KyC_cg (h3 o ho) (fun a _ _ => f a (by omega)), fun o ho => ?_⟩
  obtain ⟨q, hq⟩ := h4 o ho
  exact ⟨q, KyC_cg hq (fun a _ _ => f a (by omega))⟩
theorem SC_mf (hE : okE (yE S)) (h : SC S I T) (m : MF I T I' T') : SC S I' T' := by
  obtain ⟨f, hJ⟩ := m
  obtain ⟨J, R⟩ := T
  obtain ⟨J', R'⟩ := T'
  have e : R' = R := hJ.1
  subst e
  obtain ⟨h1, h2, h3, h4, h5, ⟨g, h6⟩, h7, h8, h9, h10, h11⟩ := h
  refine ⟨h1, h2, h3, h4, h5, ⟨g, CT_row hE.1 hE h6 f⟩, SbC_row h7 (by omega) f, SbC_row h8 (by omega) f, ?_, PlC_row hE h10 f, fun o ho => ?_⟩
  · unfold ExC
    rw [f 489 (by omega), f 490 (by omega), f 491 (by omega)]
    exact h9
  · obtain ⟨l, hl⟩ := h11 o ho
    exact ⟨l, Rng_cg hl (fun a _ _ => f a (by omega))⟩
theorem MR_row (h : MR E D Q r tk I T) (f : ∀ a, 492 ≤ a → a < 550 → I' a = I a) (hj : tJ T' 492 = tJ T 492) : MR E D Q r tk I' T' := by
  obtain ⟨h1, h2, h3, h4, h5, h6, h7, h8, h9⟩ := h
  refine ⟨?_, ChsM_cg h2 (fun a _ _ => f a (by omega) (by omega)), InsM_cg h3 (fun a _ => f a (by omega) (by omega)), KyM_cg h4 (f _ (by omega) (by omega)) (f _ (by omega) (by omega)) (f _ (by omega) (by omega)), StM_cg h5 (fun a _ _ => f a (by omega) (by omega)), ScM_cg h6 (fun j _ => by rw [f 492 (by omega) (by omega)]), ?_, RuM_cg h8 (fun a _ => f a (by omega) (by omega)), VsM_cg h9 (fun a _ => f a (by omega) (by omega)) (fun j _ => by rw [f 492 (by omega) (by omega)])⟩
  · unfold CoM
    rw [f 492 (by omega) (by omega), f 494 (by omega) (by omega), f 495 (by omega) (by omega), f 496 (by omega) (by omega), f 497 (by omega) (by omega), f 498 (by omega) (by omega), f 499 (by omega) (by omega)]
    exact h1
  · have := LaM_cg h7 (f 534 (by omega) (by omega)) (by rw [f 492 (by omega) (by omega)])
    unfold LaM at this ⊢
    rw [hj]
    exact this
theorem SM_kp (h : SM S I T) (m : KP I T I' T') : SM S I' T' := by
  obtain ⟨f, hj, -, -⟩ := m
  obtain ⟨h1, h2, h3, h4⟩ := h
  refine ⟨MR_row h1 f hj, ?_, ?_, ?_⟩
  · unfold TxM
    rw [f 492 (by omega) (by omega), f 493 (by omega) (by omega)]
    exact h2
  · unfold WrM
    rw [f 492 (by omega) (by omega), f 549 (by omega) (by omega)]
    exact h3
  · unfold ExM
    rw [f 492 (by omega) (by omega), f 547 (by omega) (by omega), f 548 (by omega) (by omega)]
    exact h4
theorem Ext_shM (e : Ext T T') (hn : 550 ≤ tN T) (h : shM T) : shM T' := by
  have key : ∀ f a kd len, a < 550 → shMr T f a kd len → shMr T' f a kd len := fun f a kd len ha h => by
    unfold shMr at h ⊢
    rw [(e.1 a (by omega)).1, (e.1 a (by omega)).2, e.2.1 492 f (by omega) (by omega)]
    exact h
  have k0 : tK T' 492 = tK T 492 := (e.1 492 (by omega)).1
  unfold shM at h ⊢
  rw [k0]
  refine ⟨h.1, ?_⟩
  have h2 := h.2
  repeat' first
    | exact key _ _ _ _ (by omega) h2
    | (refine ⟨key _ _ _ _ (by omega) h2.1, ?_⟩; replace h2 := h2.2)
end
