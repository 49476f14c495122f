/-! THE CLASS: how its rows show the pure machine; one change at a time -/
/-- pending offset, saved offset, saved counters, saved states, latest checkpoint, failures, begun -/
abbrev Slow : Type := Nat × Nat × (Nat → Nat) × (Nat → Kst) × Nat × Int32 × Bool
def qP (Q : Slow) : Nat := Q.1
def qO (Q : Slow) : Nat := Q.2.1
def qR (Q : Slow) : Nat → Nat := Q.2.2.1
def qV (Q : Slow) : Nat → Kst := Q.2.2.2.1
def qC (Q : Slow) : Nat := Q.2.2.2.2.1
def qF (Q : Slow) : Int32 := Q.2.2.2.2.2.1
def qB (Q : Slow) : Bool := Q.2.2.2.2.2.2
def KsC (I : Iw) (D : Dy) : Prop := ∀ o, o < 6 → KyC I (20 + 33 * o + 2) (dK D o)
def PeC (I : Iw) (g : Nat → Kst) : Prop := ∀ o, o < 6 → KyC I (20 + 33 * o + 5) (g o)
def PgC (I : Iw) (E : Env) (D : Dy) (g : Nat → Kst) : Prop := (∀ k, g 0 k = none) ∧ ∀ o i, vS E o i → dD D (spt o i) = true → (∀ k, home (eP E o) k = i → g o k = dG D o k) ∧ I (20 + 33 * o + 18 + 5 * i) 5 = nI (dR D (spt o i))
def StC (I : Iw) (D : Dy) : Prop := ∀ o, o < 6 → I (20 + 33 * o) 10 = dX D o ∧ I (20 + 33 * o) 11 = dY D o ∧ I (20 + 33 * o) 12 = dB D o ∧ I (20 + 33 * o) 13 = dI D o
def ScC (I : Iw) (E : Env) (D : Dy) : Prop := I 10 6 = nI (dO D) ∧ I 10 9 = nI (eT E) ∧ I 10 12 = nI (eQ E) ∧ (eQ E ≠ 0 → dW D ≤ eP E (eN E + 1) → I 10 13 = nI (eP E (eN E + 1) - dW D))
def NpC (I : Iw) (E : Env) : Prop := Rng I 12 64 ((eI E).map fun x => (x.1, x.2, 0))
def LaC (I : Iw) (T : Tl) (D : Dy) : Prop := ∃ lv, tR T 18 0 = some lv ∧ tK T lv = 100 ∧ (lv = 19 ∨ 550 ≤ lv) ∧ lv < tN T ∧ 64 ≤ tL T lv ∧ tL T lv ≤ 131072 ∧ I 18 1 = nI (dM D) ∧ I 18 2 = dU D ∧ (∀ t, t < tL T lv → I lv t = nI (dT D t)) ∧ ∀ t, tL T lv ≤ t → dT D t = 0
def VsC (I : Iw) (Q : Slow) : Prop := (∀ o, o < 6 → KyC I (20 + 33 * o + 8) (qV Q o)) ∧ (∀ o i, o < 6 → i < 3 → I (20 + 33 * o + 18 + 5 * i) 6 = nI (qR Q (spt o i))) ∧ I 10 7 = nI (qP Q) ∧ I 10 8 = nI (qO Q) ∧ I 10 10 = qF Q ∧ I 10 11 = nI (qC Q) ∧ I 10 14 = nI (b01 (qB Q))
def CT (E : Env) (D : Dy) (g : Nat → Kst) (Q : Slow) (I : Iw) (T : Tl) : Prop := CfC I E ∧ ChsC I D ∧ InsC I D ∧ KsC I D ∧ PeC I g ∧ PgC I E D g ∧ StC I D ∧ ScC I E D ∧ NpC I E ∧ LaC I T D ∧ VsC I Q
/-- rows that a tick leaves as they are -/
def FX (T : Tl) (I I' : Iw) : Prop := ∀ a, a < tN T → (a < 10 ∨ 488 ≤ a ∨ (20 ≤ a ∧ a < 218 ∧ 11 ≤ (a - 20) % 33 ∧ (a - 20) % 33 < 18)) → tR T 18 0 ≠ some a → I' a = I a
section
variable {T : Tl} {I I' : Iw} {E : Env} {D : Dy} {g : Nat → Kst} {Q : Slow} {o i : Nat}
theorem adr_in {o i : Nat} (ho : o < 6) (hi : i < 3) : ∀ a, 20 + 33 * o + 18 + 5 * i ≤ a → a < 20 + 33 * o + 18 + 5 * i + 5 → 38 ≤ a ∧ a < 218 ∧ 18 ≤ (a - 20) % 33 := fun a h1 h2 => by
  rcases (by omega : i = 0 ∨ i = 1 ∨ i = 2) with rfl | rfl | rfl <;> omega
theorem adr_ne {o i o' i' : Nat} (hi : i < 3) (hi' : i' < 3) (h : ¬ (o' = o ∧ i' = i)) : 20 + 33 * o' + 18 + 5 * i' + 5 ≤ 20 + 33 * o + 18 + 5 * i ∨ 20 + 33 * o + 18 + 5 * i + 5 ≤ 20 + 33 * o' + 18 + 5 * i' := by
  rcases (by omega : i = 0 ∨ i = 1 ∨ i = 2) with rfl | rfl | rfl <;> rcases (by omega : i' = 0 ∨ i' = 1 ∨ i' = 2) with rfl | rfl | rfl <;> omega
theorem adr_op {o i : Nat} (hi : i < 3) (o' : Nat) : 20 + 33 * o + 18 + 5 * i < 20 + 33 * o' ∨ 20 + 33 * o' + 18 ≤ 20 + 33 * o + 18 + 5 * i := by
  rcases (by omega : i = 0 ∨ i = 1 ∨ i = 2) with rfl | rfl | rfl <;> omega
theorem FX_rf : FX T I I := fun _ _ _ _ => rfl
theorem FX_tr {I2 : Iw} (h1 : FX T I I') (h2 : FX T I' I2) : FX T I I2 := fun a h h3 h4 => (h2 a h h3 h4).trans (h1 a h h3 h4)
theorem CfC_cg (h : CfC I E) (hn : eN E ≤ 4) (e1 : I' 10 5 = I 10 5) (e2 : I' 11 = I 11) (e3 : ∀ o, o < 6 → ∀ j, 6 ≤ j → j < 10 → I' (20 + 33 * o) j = I (20 + 33 * o) j) : CfC I' E := by
  obtain ⟨h1, h2, h3, h4⟩ := h
  refine ⟨by rw [e1]; exact h1, ?_, by rw [e2]; exact h3, fun o ho => ?_⟩
  · unfold SeC; rw [e2]; exact h2
  · rw [e3 o (by omega) 6 (by omega) (by omega), e3 o (by omega) 7 (by omega) (by omega), e3 o (by omega) 8 (by omega) (by omega), e3 o (by omega) 9 (by omega) (by omega)]
    exact h4 o ho
theorem ChsC_cg (h : ChsC I D) (f : ∀ a, 218 ≤ a → a < 488 → I' a = I a) : ChsC I' D := fun c hc => ChC_cg (h c hc) (fun a h1 h2 => f a (by omega) (by omega))
theorem InC_cg {q s : Nat} {D' : Dy} (h : InC I q D s) (hd : dL D' s = dL D s ∧ dH D' s = dH D s ∧ dS D' s = dS D s ∧ dP D' s = dP D s ∧ dN D' s = dN D s) (f0 : ∀ j, j < 5 → I' q j = I q j) (f : ∀ a, q < a → a < q + 5 → I' a = I a) : InC I' q D' s := by
  obtain ⟨h1, h2, h3, h4, h5⟩ := h
  obtain ⟨d1, d2, d3, d4, d5⟩ := hd
  unfold InC
  rw [d1, d2, d3, d4, d5, f0 1 (by omega), f0 2 (by omega), f0 3 (by omega), f0 4 (by omega)]
  exact ⟨Rng_cg h1 (fun a ha hb => f a (by omega) (by omega)), h2, h3, h4, h5⟩
theorem same5 {s : Nat} : dL D s = dL D s ∧ dH D s = dH D s ∧ dS D s = dS D s ∧ dP D s = dP D s ∧ dN D s = dN D s := ⟨rfl, rfl, rfl, rfl, rfl⟩
theorem InsC_cg (h : InsC I D) (f : ∀ a, 38 ≤ a → a < 218 → 18 ≤ (a - 20) % 33 → I' a = I a) : InsC I' D := fun o i ho hi => InC_cg (h o i ho hi) same5 (fun j _ => by
  have := adr_in ho hi (20 + 33 * o + 18 + 5 * i) (by omega) (by omega)
  rw [f _ this.1 this.2.1 this.2.2]) (fun a h1 h2 => by
  have := adr_in ho hi a (by omega) (by omega)
  exact f a this.1 this.2.1 this.2.2)
theorem KsC_cg (h : KsC I D) (f : ∀ a, 22 ≤ a → a < 218 → 2 ≤ (a - 20) % 33 → (a - 20) % 33 < 5 → I' a = I a) : KsC I' D := fun o ho => KyC_cg (h o ho) (fun a h1 h2 => f a (by omega) (by omega) (by omega) (by omega))
theorem PeC_cg (h : PeC I g) (f : ∀ a, 22 ≤ a → a < 218 → 5 ≤ (a - 20) % 33 → (a - 20) % 33 < 8 → I' a = I a) : PeC I' g := fun o ho => KyC_cg (h o ho) (fun a h1 h2 => f a (by omega) (by omega) (by omega) (by omega))
theorem PgC_cg (hE : okE E) (h : PgC I E D g) (f : ∀ o i, o < 6 → i < 3 → I' (20 + 33 * o + 18 + 5 * i) 5 = I (20 + 33 * o + 18 + 5 * i) 5) : PgC I' E D g := ⟨h.1, fun o i hs hd => by
  rw [f o i (by have := hs.1; have := hE.1; omega) (hs.i3 hE)]
  exact h.2 o i hs hd⟩
theorem StC_cg (h : StC I D) (f : ∀ o, o < 6 → ∀ j, 10 ≤ j → j < 14 → I' (20 + 33 * o) j = I (20 + 33 * o) j) : StC I' D := fun o ho => by
  rw [f o ho 10 (by omega) (by omega), f o ho 11 (by omega) (by omega), f o ho 12 (by omega) (by omega), f o ho 13 (by omega) (by omega)]
  exact h o ho
theorem ScC_cg (h : ScC I E D) (f : I' 10 = I 10) : ScC I' E D := by unfold ScC; rw [f]; exact h
theorem NpC_cg (h : NpC I E) (f : ∀ a, 12 ≤ a → a < 16 → I' a = I a) : NpC I' E := Rng_cg h (fun a h1 h2 => f a h1 h2)
theorem LaC_cg (h : LaC I T D) (f : I' 18 = I 18) (f2 : ∀ a, (a = 19 ∨ 550 ≤ a) → I' a = I a) : LaC I' T D := by
  obtain ⟨lv, h1, h2, h3, h4, h5, h6, h7, h8, h9, h10⟩ := h
  exact ⟨lv, h1, h2, h3, h4, h5, h6, by rw [f]; exact h7, by rw [f]; exact h8, fun t ht => by rw [f2 lv h3]; exact h9 t ht, h10⟩
theorem VsC_cg (h : VsC I Q) (f1 : ∀ a, 22 ≤ a → a < 218 → 8 ≤ (a - 20) % 33 → (a - 20) % 33 < 11 → I' a = I a) (f2 : ∀ o i, o < 6 → i < 3 → I' (20 + 33 * o + 18 + 5 * i) 6 = I (20 + 33 * o + 18 + 5 * i) 6) (f3 : I' 10 7 = I 10 7 ∧ I' 10 8 = I 10 8 ∧ I' 10 10 = I 10 10 ∧ I' 10 11 = I 10 11 ∧ I' 10 14 = I 10 14) : VsC I' Q := by
  obtain ⟨h1, h2, h3⟩ := h
  obtain ⟨e1, e2, e3, e4, e5⟩ := f3
  refine ⟨fun o ho => KyC_cg (h1 o ho) (fun a h1 h2 => f1 a (by omega) (by omega) (by omega) (by omega)), fun o i ho hi => by rw [f2 o i ho hi]; exact h2 o i ho hi, ?_⟩
  rw [e1, e2, e3, e4, e5]
  exact h3
-- one change at a time
theorem CT_ch {c : Nat} {h' : Ch} (hE : okE E) (h : CT E D g Q I T) (hc : c < 45) (f : Frm (218 + 6 * c) 6 I I') (hn : ChC I' (218 + 6 * c) h') : CT E (zsC D (upw (dC D) c h')) g Q I' T ∧ FX T I I' := by
  obtain ⟨h1, h2, h3, h4, h5, h6, h7, h8, h9, h10, h11⟩ := h
  have n4 := hE.1
  refine ⟨⟨CfC_cg h1 n4 (by rw [f 10 (by omega)]) (f 11 (by omega)) (fun o ho j _ _ => by rw [f _ (by omega)]), fun c' hc' => ?_, InsC_cg h3 (fun a _ _ _ => f a (by omega)), KsC_cg h4 (fun a _ _ _ _ => f a (by omega)), PeC_cg h5 (fun a _ _ _ _ => f a (by omega)), PgC_cg hE h6 (fun o i _ _ => by rw [f _ (by omega)]), StC_cg h7 (fun o _ j _ _ => by rw [f _ (by omega)]), ScC_cg h8 (f 10 (by omega)), NpC_cg h9 (fun a _ _ => f a (by omega)), LaC_cg h10 (f 18 (by omega)) (fun a _ => f a (by omega)), VsC_cg h11 (fun a _ _ _ _ => f a (by omega)) (fun o i _ _ => by rw [f _ (by omega)]) (by rw [f 10 (by omega)]; exact ⟨rfl, rfl, rfl, rfl, rfl⟩)⟩, fun a _ _ _ => f a (by omega)⟩
  simp only [gs_C]
  by_cases hz : c' = c
  · subst hz
    rw [upw_eq]
    exact hn
  · rw [upw_ne hz]
    exact ChC_cg (h2 c' hc') (fun a _ _ => f a (by omega))
/-- an instance's own rows -/
theorem CT_in {D' : Dy} (hE : okE E) (h : CT E D g Q I T) (ho : o < 6) (hi : i < 3) (f : Frm (20 + 33 * o + 18 + 5 * i) 5 I I') (f5 : I' (20 + 33 * o + 18 + 5 * i) 5 = I (20 + 33 * o + 18 + 5 * i) 5) (f6 : I' (20 + 33 * o + 18 + 5 * i) 6 = I (20 + 33 * o + 18 + 5 * i) 6) (hn : InC I' (20 + 33 * o + 18 + 5 * i) D' (spt o i)) (hs : ∀ s, s ≠ spt o i → dL D' s = dL D s ∧ dH D' s = dH D s ∧ dS D' s = dS D s ∧ dP D' s = dP D s ∧ dN D' s = dN D s) (hr : dC D' = dC D ∧ dD D' = dD D ∧ dR D' = dR D ∧ dK D' = dK D ∧ dG D' = dG D ∧ dX D' = dX D ∧ dY D' = dY D ∧ dB D' = dB D ∧ dI D' = dI D ∧ dT D' = dT D ∧ dM D' = dM D ∧ dU D' = dU D ∧ dO D' = dO D ∧ dW D' = dW D) : CT E D' g Q I' T ∧ FX T I I' := by
  obtain ⟨h1, h2, h3, h4, h5, h6, h7, h8, h9, h10, h11⟩ := h
  obtain ⟨r1, r2, r3, r4, r5, r6, r7, r8, r9, r10, r11, r12, r13, r14⟩ := hr
  have n4 := hE.1
  have hins : ∀ o' i', o' < 6 → i' < 3 → InC I' (20 + 33 * o' + 18 + 5 * i') D' (spt o' i') := fun o' i' ho' hi' => by
    by_cases hz : o' = o ∧ i' = i
    · rw [hz.1, hz.2]; exact hn
    · have hne : spt o' i' ≠ spt o i := spt_ne hi' hi hz
      have ha := adr_ne hi hi' hz
      exact InC_cg (h3 o' i' ho' hi') (hs _ hne) (fun j _ => by rw [f _ (by omega)]) (fun a _ _ => f a (by omega))
  have hc5 : ∀ o' i', o' < 6 → i' < 3 → I' (20 + 33 * o' + 18 + 5 * i') 5 = I (20 + 33 * o' + 18 + 5 * i') 5 ∧ I' (20 + 33 * o' + 18 + 5 * i') 6 = I (20 + 33 * o' + 18 + 5 * i') 6 := fun o' i' ho' hi' => by
    by_cases hz : o' = o ∧ i' = i
    · rw [hz.1, hz.2]; exact ⟨f5, f6⟩
    · have ha := adr_ne hi hi' hz
      rw [f _ (by omega)]
      exact ⟨rfl, rfl⟩
  have b1 : 20 + 33 * o + 18 ≤ 20 + 33 * o + 18 + 5 * i := by omega
  have b2 : 20 + 33 * o + 18 + 5 * i ≤ 20 + 33 * o + 28 := by omega
  clear f5 f6 hn
  generalize 20 + 33 * o + 18 + 5 * i = q at f b1 b2
  refine ⟨⟨CfC_cg h1 n4 (by rw [f 10 (by omega)]) (f 11 (by omega)) (fun o ho j _ _ => by rw [f _ (by omega)]), ?_, hins, ?_, PeC_cg h5 (fun a _ _ _ _ => f a (by omega)), ?_, ?_, ?_, NpC_cg h9 (fun a _ _ => f a (by omega)), ?_, VsC_cg h11 (fun a _ _ _ _ => f a (by omega)) (fun o' i' ho' hi' => (hc5 o' i' ho' hi').2) (by rw [f 10 (by omega)]; exact ⟨rfl, rfl, rfl, rfl, rfl⟩)⟩, fun a _ _ _ => f a (by omega)⟩
  · unfold ChsC; rw [r1]; exact ChsC_cg h2 (fun a _ _ => f a (by omega))
  · unfold KsC; rw [r4]; exact KsC_cg h4 (fun a _ _ _ _ => f a (by omega))
  · unfold PgC; rw [r2, r3, r5]
    exact PgC_cg hE h6 (fun o' i' ho' hi' => (hc5 o' i' ho' hi').1)
  · unfold StC; rw [r6, r7, r8, r9]; exact StC_cg h7 (fun o _ j _ _ => by rw [f _ (by omega)])
  · unfold ScC; rw [r13, r14]; exact ScC_cg h8 (f 10 (by omega))
  · unfold LaC; rw [r10, r11, r12]; exact LaC_cg h10 (f 18 (by omega)) (fun a _ => f a (by omega))
theorem r14 {D : Dy} : dC D = dC D ∧ dD D = dD D ∧ dR D = dR D ∧ dK D = dK D ∧ dG D = dG D ∧ dX D = dX D ∧ dY D = dY D ∧ dB D = dB D ∧ dI D = dI D ∧ dT D = dT D ∧ dM D = dM D ∧ dU D = dU D ∧ dO D = dO D ∧ dW D = dW D := ⟨rfl, rfl, rfl, rfl, rfl, rfl, rfl, rfl, rfl, rfl, rfl, rfl, rfl, rfl⟩
theorem CT_L {l : List Rec} (hE : okE E) (h : CT E D g Q I T) (ho : o < 6) (hi : i < 3) (f : Frm (20 + 33 * o + 18 + 5 * i + 1) 4 I I') (hn : Rng I' (20 + 33 * o + 18 + 5 * i + 1) 4 l) : CT E (zsL D (upw (dL D) (spt o i) l)) g Q I' T ∧ FX T I I' := by
  have e := f (20 + 33 * o + 18 + 5 * i) (by omega)
  obtain ⟨a1, a2, a3, a4, a5⟩ := h.2.2.1 o i ho hi
  refine CT_in hE h ho hi (Frm_up f (by omega) (by omega)) (by rw [e]) (by rw [e]) ⟨?_, by rw [e]; exact a2, by rw [e]; exact a3, by rw [e]; exact a4, by rw [e]; exact a5⟩ (fun s hs => ⟨by simp only [gs_L]; exact upw_ne hs, rfl, rfl, rfl, rfl⟩) r14
  simp only [gs_L]
  rw [upw_eq]
  exact hn
theorem CT_in1 {D' : Dy} {j : Nat} {v : Int32} (hE : okE E) (h : CT E D g Q I T) (ho : o < 6) (hi : i < 3) (hj : j < 5) (hn : InC (u2 I (20 + 33 * o + 18 + 5 * i) j v) (20 + 33 * o + 18 + 5 * i) D' (spt o i)) (hs : ∀ s, s ≠ spt o i → dL D' s = dL D s ∧ dH D' s = dH D s ∧ dS D' s = dS D s ∧ dP D' s = dP D s ∧ dN D' s = dN D s) (hr : dC D' = dC D ∧ dD D' = dD D ∧ dR D' = dR D ∧ dK D' = dK D ∧ dG D' = dG D ∧ dX D' = dX D ∧ dY D' = dY D ∧ dB D' = dB D ∧ dI D' = dI D ∧ dT D' = dT D ∧ dM D' = dM D ∧ dU D' = dU D ∧ dO D' = dO D ∧ dW D' = dW D) : CT E D' g Q (u2 I (20 + 33 * o + 18 + 5 * i) j v) T ∧ FX T I (u2 I (20 + 33 * o + 18 + 5 * i) j v) :=
  CT_in hE h ho hi (Frm_u2 Frm_rf (by omega) (by omega)) (u2_nj rfl (by omega)) (u2_nj rfl (by omega)) hn hs hr
theorem CT_H {b : Bool} (hE : okE E) (h : CT E D g Q I T) (ho : o < 6) (hi : i < 3) : CT E (zsH D (upw (dH D) (spt o i) b)) g Q (u2 I (20 + 33 * o + 18 + 5 * i) 1 (nI (b01 b))) T ∧ FX T I (u2 I (20 + 33 * o + 18 + 5 * i) 1 (nI (b01 b))) := by
  obtain ⟨a1, a2, a3, a4, a5⟩ := h.2.2.1 o i ho hi
  refine CT_in1 hE h ho hi (by omega) ⟨Rng_cg a1 (fun a _ _ => u2_ne (by omega)), ?_, ?_, ?_, ?_⟩ (fun s hs => ⟨rfl, by simp only [gs_H]; exact upw_ne hs, rfl, rfl, rfl⟩) r14
  · simp only [gs_H]; rw [upw_eq]; exact u2_at rfl rfl
  · rw [u2_nj rfl (by omega)]; exact a3
  · rw [u2_nj rfl (by omega)]; exact a4
  · rw [u2_nj rfl (by omega)]; exact a5
theorem CT_S {m : Nat} (hE : okE E) (h : CT E D g Q I T) (ho : o < 6) (hi : i < 3) : CT E (zsS D (upw (dS D) (spt o i) m)) g Q (u2 I (20 + 33 * o + 18 + 5 * i) 2 (nI m)) T ∧ FX T I (u2 I (20 + 33 * o + 18 + 5 * i) 2 (nI m)) := by
  obtain ⟨a1, a2, a3, a4, a5⟩ := h.2.2.1 o i ho hi
  refine CT_in1 hE h ho hi (by omega) ⟨Rng_cg a1 (fun a _ _ => u2_ne (by omega)), ?_, ?_, ?_, ?_⟩ (fun s hs => ⟨rfl, rfl, by simp only [gs_S]; exact upw_ne hs, rfl, rfl⟩) r14
  · rw [u2_nj rfl (by omega)]; exact a2
  · simp only [gs_S]; rw [upw_eq]; exact u2_at rfl rfl
  · rw [u2_nj rfl (by omega)]; exact a4
  · rw [u2_nj rfl (by omega)]; exact a5
theorem CT_P {m : Nat} (hE : okE E) (h : CT E D g Q I T) (ho : o < 6) (hi : i < 3) : CT E (zsP D (upw (dP D) (spt o i) m)) g Q (u2 I (20 + 33 * o + 18 + 5 * i) 3 (nI m)) T ∧ FX T I (u2 I (20 + 33 * o + 18 + 5 * i) 3 (nI m)) := by
  obtain ⟨a1, a2, a3, a4, a5⟩ := h.2.2.1 o i ho hi
  refine CT_in1 hE h ho hi (by omega) ⟨Rng_cg a1 (fun a _ _ => u2_ne (by omega)), ?_, ?_, ?_, ?_⟩ (fun s hs => ⟨rfl, rfl, rfl, by simp only [gs_P]; exact upw_ne hs, rfl⟩) r14
  · rw [u2_nj rfl (by omega)]; exact a2
  · rw [u2_nj rfl (by omega)]; exact a3
  · simp only [gs_P]; rw [upw_eq]; exact u2_at rfl rfl
  · rw [u2_nj rfl (by omega)]; exact a5
theorem CT_N {m : Nat} (hE : okE E) (h : CT E D g Q I T) (ho : o < 6) (hi : i < 3) : CT E (zsN D (upw (dN D) (spt o i) m)) g Q (u2 I (20 + 33 * o + 18 + 5 * i) 4 (nI m)) T ∧ FX T I (u2 I (20 + 33 * o + 18 + 5 * i) 4 (nI m)) := by
  obtain ⟨a1, a2, a3, a4, a5⟩ := h.2.2.1 o i ho hi
  refine CT_in1 hE h ho hi (by omega) ⟨Rng_cg a1 (fun a _ _ => u2_ne (by omega)), ?_, ?_, ?_, ?_⟩ (fun s hs => ⟨rfl, rfl, rfl, rfl, by simp only [gs_N]; exact upw_ne hs⟩) r14
  · rw [u2_nj rfl (by omega)]; exact a2
  · rw [u2_nj rfl (by omega)]; exact a3
  · rw [u2_nj rfl (by omega)]; exact a4
  · simp only [gs_N]; rw [upw_eq]; exact u2_at rfl rfl
/-- a count of an operator -/
theorem CT_st {D' : Dy} {j : Nat} {v : Int32} (hE : okE E) (h : CT E D g Q I T) (ho : o < 6) (hj : 10 ≤ j) (hj2 : j < 14) (hn : StC (u2 I (20 + 33 * o) j v) D') (hr : dC D' = dC D ∧ dL D' = dL D ∧ dH D' = dH D ∧ dS D' = dS D ∧ dP D' = dP D ∧ dN D' = dN D ∧ dD D' = dD D ∧ dR D' = dR D ∧ dK D' = dK D ∧ dG D' = dG D ∧ dT D' = dT D ∧ dM D' = dM D ∧ dU D' = dU D ∧ dO D' = dO D ∧ dW D' = dW D) : CT E D' g Q (u2 I (20 + 33 * o) j v) T ∧ FX T I (u2 I (20 + 33 * o) j v) := by
  obtain ⟨h1, h2, h3, h4, h5, h6, h7, h8, h9, h10, h11⟩ := h
  obtain ⟨r1, r2, r3, r4, r5, r6, r7, r8, r9, r10, r11, r12, r13, r14, r15⟩ := hr
  have n4 := hE.1
  have f : ∀ a, a ≠ 20 + 33 * o → u2 I (20 + 33 * o) j v a = I a := fun a ha => u2_ne ha
  refine ⟨⟨CfC_cg h1 n4 (by rw [f 10 (by omega)]) (f 11 (by omega)) (fun o' ho' j' _ _ => ?_), ?_, ?_, ?_, PeC_cg h5 (fun a _ _ _ _ => f a (by omega)), ?_, hn, ?_, NpC_cg h9 (fun a _ _ => f a (by omega)), ?_, VsC_cg h11 (fun a _ _ _ _ => f a (by omega)) (fun o' i' ho' hi' => by have := adr_op (o := o') hi' o; rw [f _ (by omega)]) (by rw [f 10 (by omega)]; exact ⟨rfl, rfl, rfl, rfl, rfl⟩)⟩, fun a _ _ _ => f a (by omega)⟩
  · by_cases hz : o' = o
    · rw [hz]; exact u2_nj rfl (by omega)
    · rw [f _ (by omega)]
  · unfold ChsC; rw [r1]; exact ChsC_cg h2 (fun a _ _ => f a (by omega))
  · exact fun o' i' ho' hi' => InC_cg (h3 o' i' ho' hi') ⟨by rw [r2], by rw [r3], by rw [r4], by rw [r5], by rw [r6]⟩ (fun j _ => by have := adr_op (o := o') hi' o; rw [f _ (by omega)]) (fun a _ _ => by have := adr_in ho' hi' a (by omega) (by omega); exact f a (by omega))
  · unfold KsC; rw [r9]; exact KsC_cg h4 (fun a _ _ _ _ => f a (by omega))
  · unfold PgC; rw [r7, r8, r10]; exact PgC_cg hE h6 (fun o' i' _ hi' => by have := adr_op (o := o') hi' o; rw [f _ (by omega)])
  · unfold ScC; rw [r14, r15]; exact ScC_cg h8 (f 10 (by omega))
  · unfold LaC; rw [r11, r12, r13]; exact LaC_cg h10 (f 18 (by omega)) (fun a _ => f a (by omega))
theorem r15 {D : Dy} : dC D = dC D ∧ dL D = dL D ∧ dH D = dH D ∧ dS D = dS D ∧ dP D = dP D ∧ dN D = dN D ∧ dD D = dD D ∧ dR D = dR D ∧ dK D = dK D ∧ dG D = dG D ∧ dT D = dT D ∧ dM D = dM D ∧ dU D = dU D ∧ dO D = dO D ∧ dW D = dW D := ⟨rfl, rfl, rfl, rfl, rfl, rfl, rfl, rfl, rfl, rfl, rfl, rfl, rfl, rfl, rfl⟩
theorem StC_one {D' : Dy} {j : Nat} {v : Int32} (h : StC I D) (ho : o < 6) (hs : ∀ o', o' ≠ o → dX D' o' = dX D o' ∧ dY D' o' = dY D o' ∧ dB D' o' = dB D o' ∧ dI D' o' = dI D o') (h1 : (if 10 = j then v else dX D o) = dX D' o) (h2 : (if 11 = j then v else dY D o) = dY D' o) (h3 : (if 12 = j then v else dB D o) = dB D' o) (h4 : (if 13 = j then v else dI D o) = dI D' o) : StC (u2 I (20 + 33 * o) j v) D' := fun o' ho' => by
  obtain ⟨a1, a2, a3, a4⟩ := h o' ho'
  by_cases hz : o' = o
  · subst hz
    rw [← h1, ← h2, ← h3, ← h4, ← a1, ← a2, ← a3, ← a4]
    refine ⟨?_, ?_, ?_, ?_⟩ <;> (unfold u2; simp)
  · obtain ⟨b1, b2, b3, b4⟩ := hs o' hz
    rw [u2_ne (by omega), b1, b2, b3, b4]
    exact ⟨a1, a2, a3, a4⟩
theorem CT_X {v : Int32} (hE : okE E) (h : CT E D g Q I T) (ho : o < 6) : CT E (zsX D (upw (dX D) o v)) g Q (u2 I (20 + 33 * o) 10 v) T ∧ FX T I (u2 I (20 + 33 * o) 10 v) :=
  CT_st hE h ho (by omega) (by omega) (StC_one h.2.2.2.2.2.2.1 ho (fun o' ho' => ⟨by simp only [gs_X]; exact upw_ne ho', rfl, rfl, rfl⟩) (by simp only [gs_X, upw_eq, if_pos]) rfl rfl rfl) r15
theorem CT_Y {v : Int32} (hE : okE E) (h : CT E D g Q I T) (ho : o < 6) : CT E (zsY D (upw (dY D) o v)) g Q (u2 I (20 + 33 * o) 11 v) T ∧ FX T I (u2 I (20 + 33 * o) 11 v) :=
  CT_st hE h ho (by omega) (by omega) (StC_one h.2.2.2.2.2.2.1 ho (fun o' ho' => ⟨rfl, by simp only [gs_Y]; exact upw_ne ho', rfl, rfl⟩) rfl (by simp only [gs_Y, upw_eq, if_pos]) rfl rfl) r15
theorem CT_B {v : Int32} (hE : okE E) (h : CT E D g Q I T) (ho : o < 6) : CT E (zsB D (upw (dB D) o v)) g Q (u2 I (20 + 33 * o) 12 v) T ∧ FX T I (u2 I (20 + 33 * o) 12 v) :=
  CT_st hE h ho (by omega) (by omega) (StC_one h.2.2.2.2.2.2.1 ho (fun o' ho' => ⟨rfl, rfl, by simp only [gs_B]; exact upw_ne ho', rfl⟩) rfl rfl (by simp only [gs_B, upw_eq, if_pos]) rfl) r15
theorem CT_I {v : Int32} (hE : okE E) (h : CT E D g Q I T) (ho : o < 6) : CT E (zsI D (upw (dI D) o v)) g Q (u2 I (20 + 33 * o) 13 v) T ∧ FX T I (u2 I (20 + 33 * o) 13 v) :=
  CT_st hE h ho (by omega) (by omega) (StC_one h.2.2.2.2.2.2.1 ho (fun o' ho' => ⟨rfl, rfl, rfl, by simp only [gs_I]; exact upw_ne ho'⟩) rfl rfl rfl (by simp only [gs_I, upw_eq, if_pos])) r15
/-- the states by key of an operator -/
theorem CT_K {f' : Kst} (hE : okE E) (h : CT E D g Q I T) (ho : o < 6) (f : Frm (20 + 33 * o + 2) 3 I I') (hn : KyC I' (20 + 33 * o + 2) f') : CT E (zsK D (upw (dK D) o f')) g Q I' T ∧ FX T I I' := by
  obtain ⟨h1, h2, h3, h4, h5, h6, h7, h8, h9, h10, h11⟩ := h
  have n4 := hE.1
  refine ⟨⟨CfC_cg h1 n4 (by rw [f 10 (by omega)]) (f 11 (by omega)) (fun o ho j _ _ => by rw [f _ (by omega)]), ChsC_cg h2 (fun a _ _ => f a (by omega)), InsC_cg h3 (fun a _ _ _ => f a (by omega)), fun o' ho' => ?_, PeC_cg h5 (fun a _ _ _ _ => f a (by omega)), PgC_cg hE h6 (fun o' i' _ hi' => by have := adr_op (o := o') hi' o; rw [f _ (by omega)]), StC_cg h7 (fun o _ j _ _ => by rw [f _ (by omega)]), ScC_cg h8 (f 10 (by omega)), NpC_cg h9 (fun a _ _ => f a (by omega)), LaC_cg h10 (f 18 (by omega)) (fun a _ => f a (by omega)), VsC_cg h11 (fun a _ _ _ _ => f a (by omega)) (fun o' i' _ hi' => by have := adr_op (o := o') hi' o; rw [f _ (by omega)]) (by rw [f 10 (by omega)]; exact ⟨rfl, rfl, rfl, rfl, rfl⟩)⟩, fun a _ _ _ => f a (by omega)⟩
  simp only [gs_K]
  by_cases hz : o' = o
  · subst hz
    rw [upw_eq]
    exact hn
  · rw [upw_ne hz]
    exact KyC_cg (h4 o' ho') (fun a _ _ => f a (by omega))
theorem CT_O {m : Nat} (hE : okE E) (h : CT E D g Q I T) : CT E (zsO D m) g Q (u2 I 10 6 (nI m)) T ∧ FX T I (u2 I 10 6 (nI m)) := by
  obtain ⟨h1, h2, h3, h4, h5, h6, h7, h8, h9, h10, h11⟩ := h
  have n4 := hE.1
  have f : ∀ a, a ≠ 10 → u2 I 10 6 (nI m) a = I a := fun a ha => u2_ne ha
  refine ⟨⟨CfC_cg h1 n4 (u2_nj rfl (by omega)) (f 11 (by omega)) (fun o ho j _ _ => by rw [f _ (by omega)]), ChsC_cg h2 (fun a _ _ => f a (by omega)), InsC_cg h3 (fun a _ _ _ => f a (by omega)), KsC_cg h4 (fun a _ _ _ _ => f a (by omega)), PeC_cg h5 (fun a _ _ _ _ => f a (by omega)), PgC_cg hE h6 (fun o i _ _ => by rw [f _ (by omega)]), StC_cg h7 (fun o _ j _ _ => by rw [f _ (by omega)]), ?_, NpC_cg h9 (fun a _ _ => f a (by omega)), LaC_cg h10 (f 18 (by omega)) (fun a _ => f a (by omega)), VsC_cg h11 (fun a _ _ _ _ => f a (by omega)) (fun o i _ _ => by rw [f _ (by omega)]) ⟨u2_nj rfl (by omega), u2_nj rfl (by omega), u2_nj rfl (by omega), u2_nj rfl (by omega), u2_nj rfl (by omega)⟩⟩, fun a _ _ _ => f a (by omega)⟩
  obtain ⟨s1, s2, s3, s4⟩ := h8
  refine ⟨u2_at rfl rfl, (u2_nj rfl (by omega)).trans s2, (u2_nj rfl (by omega)).trans s3, fun hq hw => (u2_nj rfl (by omega)).trans (s4 hq hw)⟩
theorem CT_W {m : Nat} {v : Int32} (hE : okE E) (h : CT E D g Q I T) (hv : eQ E ≠ 0 → v = nI (eP E (eN E + 1) - m)) : CT E (zsW D m) g Q (u2 I 10 13 v) T ∧ FX T I (u2 I 10 13 v) := by
  obtain ⟨h1, h2, h3, h4, h5, h6, h7, h8, h9, h10, h11⟩ := h
  have n4 := hE.1
  have f : ∀ a, a ≠ 10 → u2 I 10 13 v a = I a := fun a ha => u2_ne ha
  refine ⟨⟨CfC_cg h1 n4 (u2_nj rfl (by omega)) (f 11 (by omega)) (fun o ho j _ _ => by rw [f _ (by omega)]), ChsC_cg h2 (fun a _ _ => f a (by omega)), InsC_cg h3 (fun a _ _ _ => f a (by omega)), KsC_cg h4 (fun a _ _ _ _ => f a (by omega)), PeC_cg h5 (fun a _ _ _ _ => f a (by omega)), PgC_cg hE h6 (fun o i _ _ => by rw [f _ (by omega)]), StC_cg h7 (fun o _ j _ _ => by rw [f _ (by omega)]), ?_, NpC_cg h9 (fun a _ _ => f a (by omega)), LaC_cg h10 (f 18 (by omega)) (fun a _ => f a (by omega)), VsC_cg h11 (fun a _ _ _ _ => f a (by omega)) (fun o i _ _ => by rw [f _ (by omega)]) ⟨u2_nj rfl (by omega), u2_nj rfl (by omega), u2_nj rfl (by omega), u2_nj rfl (by omega), u2_nj rfl (by omega)⟩⟩, fun a _ _ _ => f a (by omega)⟩
  obtain ⟨s1, s2, s3, s4⟩ := h8
  refine ⟨(u2_nj rfl (by omega)).trans s1, (u2_nj rfl (by omega)).trans s2, (u2_nj rfl (by omega)).trans s3, fun hq _ => (u2_at rfl rfl).trans (hv hq)⟩
end
