/-! THE REFERENCE: how its rows show the pure machine; one change at a time -/
def CoM (I : Iw) (E : Env) : Prop := I 492 2 = nI (eN E) ∧ I 492 7 = nI (eS E) ∧ I 492 8 = nI (eG E) ∧ I 492 9 = nI (eC E) ∧ I 492 10 = nI (eR E) ∧ I 492 13 = nI (eI E).length ∧ (∀ o, o ≤ eN E + 1 → I 494 o = nI (eK E o) ∧ I 495 o = eA E o ∧ I 496 o = eB E o ∧ I 497 o = nI (eP E o)) ∧ ∀ j (h : j < (eI E).length), I 498 j = kv (eI E)[j].1 ∧ I 499 j = (eI E)[j].2
def ChsM (I : Iw) (D : Dy) : Prop := ∀ c, c < 54 → ChM I c (dC D c)
def LiM (I : Iw) (s : Nat) (l : List Rec) : Prop := I 516 s = nI l.length ∧ ∀ j (h : j < l.length), I 517 (3 * s + j) = kv l[j].1 ∧ I 518 (3 * s + j) = l[j].2.1 ∧ I 519 (3 * s + j) = nI l[j].2.2
def InsM (I : Iw) (D : Dy) : Prop := ∀ s, s < 18 → LiM I s (dL D s) ∧ I 520 s = nI (dS D s) ∧ I 521 s = nI (dP D s) ∧ I 522 s = nI (b01 (dH D s)) ∧ I 513 s = nI (dN D s)
def KyM (I : Iw) (p q r : Nat) (f : Nat → Kst) : Prop := ∀ o (k : Fin 16), o < 6 → I p (16 * o + k.val) = nI (b01 (f o k).isSome) ∧ ∀ x, f o k = some x → I q (16 * o + k.val) = x.1 ∧ I r (16 * o + k.val) = x.2
def StM (I : Iw) (D : Dy) : Prop := ∀ o, o < 6 → I 500 o = dX D o ∧ I 501 o = dY D o ∧ I 502 o = dB D o ∧ I 503 o = dI D o
def ScM (I : Iw) (E : Env) (D : Dy) (tk : Nat) : Prop := I 492 14 = nI (dO D) ∧ I 492 15 = nI tk ∧ (eQ E ≠ 0 → I 492 38 = nI (dW D))
def LaM (I : Iw) (T : Tl) (D : Dy) : Prop := (∀ t, t < 40000 → I 534 t = nI (dT D t)) ∧ I 492 58 = nI (dM D) ∧ (tJ T 492 59).toInt32 = dU D
def RuM (I : Iw) (D : Dy) : Prop := KyM I 505 508 511 (dG D) ∧ ∀ s, s < 18 → I 514 s = nI (dR D s)
def VsM (I : Iw) (Q : Slow) (r : Nat) : Prop := KyM I 506 509 512 (qV Q) ∧ (∀ s, s < 18 → I 515 s = nI (qR Q s)) ∧ I 492 16 = nI (qC Q) ∧ I 492 17 = nI r ∧ I 492 18 = qF Q ∧ I 492 19 = nI (b01 (qB Q)) ∧ I 492 36 = nI (qP Q) ∧ I 492 37 = nI (qO Q)
def MR (E : Env) (D : Dy) (Q : Slow) (r tk : Nat) (I : Iw) (T : Tl) : Prop := CoM I E ∧ ChsM I D ∧ InsM I D ∧ KyM I 504 507 510 (dK D) ∧ StM I D ∧ ScM I E D tk ∧ LaM I T D ∧ RuM I D ∧ VsM I Q r
/-- rows and fields that a tick leaves as they are -/
def FM (I I' : Iw) : Prop := (∀ a, a ≠ 492 → (a < 500 ∨ 540 < a) → I' a = I a) ∧ ∀ j, (j < 14 ∨ (19 < j ∧ j < 37) ∨ (38 < j ∧ j ≠ 58 ∧ j ≠ 68)) → I' 492 j = I 492 j
theorem FM_rf {I : Iw} : FM I I := ⟨fun _ _ _ => rfl, fun _ _ => rfl⟩
theorem FM_tr {I I1 I2 : Iw} (h1 : FM I I1) (h2 : FM I1 I2) : FM I I2 := ⟨fun a h h' => (h2.1 a h h').trans (h1.1 a h h'), fun j h => (h2.2 j h).trans (h1.2 j h)⟩
theorem FM_fr {I I' : Iw} (h : ∀ a, (a < 500 ∨ 540 < a) → I' a = I a) (h2 : ∀ j, (j < 14 ∨ (19 < j ∧ j < 37) ∨ (38 < j ∧ j ≠ 58 ∧ j ≠ 68)) → I' 492 j = I 492 j) : FM I I' := ⟨fun a _ h' => h a h', h2⟩
theorem FM_u2 {I : Iw} {a x : Nat} {v : Int32} (h : 500 ≤ a ∧ a ≤ 540) : FM I (u2 I a x v) := ⟨fun b _ hb => u2_ne (by omega), fun j _ => by rw [u2_ne (by omega)]⟩
theorem FM_f2 {I : Iw} {j : Nat} {v : Int32} (h : (14 ≤ j ∧ j ≤ 19) ∨ j = 37 ∨ j = 38 ∨ j = 58 ∨ j = 68) : FM I (u2 I 492 j v) := ⟨fun b hb _ => u2_ne hb, fun j _ => u2_nj rfl (by omega)⟩
/-- what a tick sees of a checkpoint that has ended within it -/
def fQ (E : Env) (D : Dy) (Q : Slow) : Slow := if eQ E ≠ 0 ∧ dW D = eP E (eN E + 1) then (qP Q, qP Q, dR D, dG D, eQ E, qF Q, qB Q) else Q
def fR (E : Env) (D : Dy) : Nat := if eQ E ≠ 0 ∧ dW D = eP E (eN E + 1) then 0 else eQ E
section
variable {T T' : Tl} {I I' : Iw} {E : Env} {D : Dy} {Q : Slow} {o i s c r tk : Nat}
theorem CoM_cg (h : CoM I E) (f : FM I I') : CoM I' E := by
  obtain ⟨h1, h2, h3, h4, h5, h6, h7, h8⟩ := h
  refine ⟨by rw [f.2 2 (by omega)]; exact h1, by rw [f.2 7 (by omega)]; exact h2, by rw [f.2 8 (by omega)]; exact h3, by rw [f.2 9 (by omega)]; exact h4, by rw [f.2 10 (by omega)]; exact h5, by rw [f.2 13 (by omega)]; exact h6, ?_, ?_⟩
  · rw [f.1 494 (by omega) (by omega), f.1 495 (by omega) (by omega), f.1 496 (by omega) (by omega), f.1 497 (by omega) (by omega)]; exact h7
  · rw [f.1 498 (by omega) (by omega), f.1 499 (by omega) (by omega)]; exact h8
theorem ChM_cr {h : Ch} (hh : ChM I c h) (f : ∀ a, 523 ≤ a → a < 534 → I' a = I a) : ChM I' c h := by
  unfold ChM OpM QuM at hh ⊢
  rw [f 523 (by omega) (by omega), f 524 (by omega) (by omega), f 525 (by omega) (by omega), f 526 (by omega) (by omega), f 527 (by omega) (by omega), f 528 (by omega) (by omega), f 529 (by omega) (by omega)]
  obtain ⟨h1, h2, h3, h4, t, h5, h6, h7, h8⟩ := hh
  refine ⟨h1, h2, h3, h4, t, h5, h6, h7, fun x hx => ?_⟩
  have h9 := h8 x hx
  unfold BtM at h9 ⊢
  rw [f 530 (by omega) (by omega), f 531 (by omega) (by omega), f 532 (by omega) (by omega), f 533 (by omega) (by omega)]
  exact h9
theorem ChsM_cg (h : ChsM I D) (f : ∀ a, 523 ≤ a → a < 534 → I' a = I a) : ChsM I' D := fun c hc => ChM_cr (h c hc) f
theorem InsM_cg (h : InsM I D) (f : ∀ a, (a = 513 ∨ (516 ≤ a ∧ a < 523)) → I' a = I a) : InsM I' D := by
  unfold InsM LiM
  rw [f 513 (by omega), f 516 (by omega), f 517 (by omega), f 518 (by omega), f 519 (by omega), f 520 (by omega), f 521 (by omega), f 522 (by omega)]
  exact h
theorem KyM_cg {p q u : Nat} {f : Nat → Kst} (h : KyM I p q u f) (g1 : I' p = I p) (g2 : I' q = I q) (g3 : I' u = I u) : KyM I' p q u f := by
  unfold KyM
  rw [g1, g2, g3]
  exact h
theorem StM_cg (h : StM I D) (f : ∀ a, 500 ≤ a → a < 504 → I' a = I a) : StM I' D := by
  unfold StM
  rw [f 500 (by omega) (by omega), f 501 (by omega) (by omega), f 502 (by omega) (by omega), f 503 (by omega) (by omega)]
  exact h
theorem ScM_cg (h : ScM I E D tk) (f : ∀ j, (j = 14 ∨ j = 15 ∨ j = 38) → I' 492 j = I 492 j) : ScM I' E D tk := by
  unfold ScM
  rw [f 14 (by omega), f 15 (by omega), f 38 (by omega)]
  exact h
theorem LaM_cg (h : LaM I T D) (f : I' 534 = I 534) (g : I' 492 58 = I 492 58) : LaM I' T D := by
  unfold LaM
  rw [f, g]
  exact h
theorem RuM_cg (h : RuM I D) (f : ∀ a, (a = 505 ∨ a = 508 ∨ a = 511 ∨ a = 514) → I' a = I a) : RuM I' D := by
  refine ⟨KyM_cg h.1 (f 505 (by omega)) (f 508 (by omega)) (f 511 (by omega)), ?_⟩
  rw [f 514 (by omega)]
  exact h.2
theorem VsM_cg (h : VsM I Q r) (f : ∀ a, (a = 506 ∨ a = 509 ∨ a = 512 ∨ a = 515) → I' a = I a) (g : ∀ j, (j = 16 ∨ j = 17 ∨ j = 18 ∨ j = 19 ∨ j = 36 ∨ j = 37) → I' 492 j = I 492 j) : VsM I' Q r := by
  refine ⟨KyM_cg h.1 (f 506 (by omega)) (f 509 (by omega)) (f 512 (by omega)), ?_⟩
  rw [f 515 (by omega), g 16 (by omega), g 17 (by omega), g 18 (by omega), g 19 (by omega), g 36 (by omega), g 37 (by omega)]
  exact h.2
theorem MR_X {v : Int32} (h : MR E D Q r tk I T) : MR E (zsX D (upw (dX D) o v)) Q r tk (u2 I 500 o v) T ∧ FM I (u2 I 500 o v) := by
  obtain ⟨h1, h2, h3, h4, h5, h6, h7, h8, h9⟩ := h
  have f : FM I (u2 I 500 o v) := FM_u2 (by omega)
  refine ⟨⟨CoM_cg h1 f, ChsM_cg h2 (fun a _ _ => u2_ne (by omega)), InsM_cg h3 (fun a _ => u2_ne (by omega)), KyM_cg h4 (u2_ne (by omega)) (u2_ne (by omega)) (u2_ne (by omega)), ?_, ScM_cg h6 (fun j _ => by rw [u2_ne (by omega)]), LaM_cg h7 (u2_ne (by omega)) (by rw [u2_ne (by omega)]), RuM_cg h8 (fun a _ => u2_ne (by omega)), VsM_cg h9 (fun a _ => u2_ne (by omega)) (fun j _ => by rw [u2_ne (by omega)])⟩, f⟩
  intro x hx
  obtain ⟨p1, p2, p3, p4⟩ := h5 x hx
  simp only [gs_X]
  by_cases hz : x = o
  · rw [hz] at p1 p2 p3 p4 ⊢
    rw [upw_eq]
    simp (disch := omega) only [u2_ne, u2_at]
    exact ⟨trivial, p2, p3, p4⟩
  · rw [upw_ne hz]
    simp (disch := omega) only [u2_ne, u2_nj]
    exact ⟨p1, p2, p3, p4⟩
theorem MR_Y {v : Int32} (h : MR E D Q r tk I T) : MR E (zsY D (upw (dY D) o v)) Q r tk (u2 I 501 o v) T ∧ FM I (u2 I 501 o v) := by
  obtain ⟨h1, h2, h3, h4, h5, h6, h7, h8, h9⟩ := h
  have f : FM I (u2 I 501 o v) := FM_u2 (by omega)
  refine ⟨⟨CoM_cg h1 f, ChsM_cg h2 (fun a _ _ => u2_ne (by omega)), InsM_cg h3 (fun a _ => u2_ne (by omega)), KyM_cg h4 (u2_ne (by omega)) (u2_ne (by omega)) (u2_ne (by omega)), ?_, ScM_cg h6 (fun j _ => by rw [u2_ne (by omega)]), LaM_cg h7 (u2_ne (by omega)) (by rw [u2_ne (by omega)]), RuM_cg h8 (fun a _ => u2_ne (by omega)), VsM_cg h9 (fun a _ => u2_ne (by omega)) (fun j _ => by rw [u2_ne (by omega)])⟩, f⟩
  intro x hx
  obtain ⟨p1, p2, p3, p4⟩ := h5 x hx
  simp only [gs_Y]
  by_cases hz : x = o
  · rw [hz] at p1 p2 p3 p4 ⊢
    rw [upw_eq]
    simp (disch := omega) only [u2_ne, u2_at]
    exact ⟨p1, trivial, p3, p4⟩
  · rw [upw_ne hz]
    simp (disch := omega) only [u2_ne, u2_nj]
    exact ⟨p1, p2, p3, p4⟩
theorem MR_B {v : Int32} (h : MR E D Q r tk I T) : MR E (zsB D (upw (dB D) o v)) Q r tk (u2 I 502 o v) T ∧ FM I (u2 I 502 o v) := by
  obtain ⟨h1, h2, h3, h4, h5, h6, h7, h8, h9⟩ := h
  have f : FM I (u2 I 502 o v) := FM_u2 (by omega)
  refine ⟨⟨CoM_cg h1 f, ChsM_cg h2 (fun a _ _ => u2_ne (by omega)), InsM_cg h3 (fun a _ => u2_ne (by omega)), KyM_cg h4 (u2_ne (by omega)) (u2_ne (by omega)) (u2_ne (by omega)), ?_, ScM_cg h6 (fun j _ => by rw [u2_ne (by omega)]), LaM_cg h7 (u2_ne (by omega)) (by rw [u2_ne (by omega)]), RuM_cg h8 (fun a _ => u2_ne (by omega)), VsM_cg h9 (fun a _ => u2_ne (by omega)) (fun j _ => by rw [u2_ne (by omega)])⟩, f⟩
  intro x hx
  obtain ⟨p1, p2, p3, p4⟩ := h5 x hx
  simp only [gs_B]
  by_cases hz : x = o
  · rw [hz] at p1 p2 p3 p4 ⊢
    rw [upw_eq]
    simp (disch := omega) only [u2_ne, u2_at]
    exact ⟨p1, p2, trivial, p4⟩
  · rw [upw_ne hz]
    simp (disch := omega) only [u2_ne, u2_nj]
    exact ⟨p1, p2, p3, p4⟩
theorem MR_I {v : Int32} (h : MR E D Q r tk I T) : MR E (zsI D (upw (dI D) o v)) Q r tk (u2 I 503 o v) T ∧ FM I (u2 I 503 o v) := by
  obtain ⟨h1, h2, h3, h4, h5, h6, h7, h8, h9⟩ := h
  have f : FM I (u2 I 503 o v) := FM_u2 (by omega)
  refine ⟨⟨CoM_cg h1 f, ChsM_cg h2 (fun a _ _ => u2_ne (by omega)), InsM_cg h3 (fun a _ => u2_ne (by omega)), KyM_cg h4 (u2_ne (by omega)) (u2_ne (by omega)) (u2_ne (by omega)), ?_, ScM_cg h6 (fun j _ => by rw [u2_ne (by omega)]), LaM_cg h7 (u2_ne (by omega)) (by rw [u2_ne (by omega)]), RuM_cg h8 (fun a _ => u2_ne (by omega)), VsM_cg h9 (fun a _ => u2_ne (by omega)) (fun j _ => by rw [u2_ne (by omega)])⟩, f⟩
  intro x hx
  obtain ⟨p1, p2, p3, p4⟩ := h5 x hx
  simp only [gs_I]
  by_cases hz : x = o
  · rw [hz] at p1 p2 p3 p4 ⊢
    rw [upw_eq]
    simp (disch := omega) only [u2_ne, u2_at]
    exact ⟨p1, p2, p3, trivial⟩
  · rw [upw_ne hz]
    simp (disch := omega) only [u2_ne, u2_nj]
    exact ⟨p1, p2, p3, p4⟩
theorem MR_S {m : Nat} (h : MR E D Q r tk I T) : MR E (zsS D (upw (dS D) s m)) Q r tk (u2 I 520 s (nI m)) T ∧ FM I (u2 I 520 s (nI m)) := by
  obtain ⟨h1, h2, h3, h4, h5, h6, h7, h8, h9⟩ := h
  have f : FM I (u2 I 520 s (nI m)) := FM_u2 (by omega)
  refine ⟨⟨CoM_cg h1 f, ChsM_cg h2 (fun a _ _ => u2_ne (by omega)), ?_, KyM_cg h4 (u2_ne (by omega)) (u2_ne (by omega)) (u2_ne (by omega)), StM_cg h5 (fun a _ _ => u2_ne (by omega)), ScM_cg h6 (fun j _ => by rw [u2_ne (by omega)]), LaM_cg h7 (u2_ne (by omega)) (by rw [u2_ne (by omega)]), RuM_cg h8 (fun a _ => u2_ne (by omega)), VsM_cg h9 (fun a _ => u2_ne (by omega)) (fun j _ => by rw [u2_ne (by omega)])⟩, f⟩
  intro x hx
  obtain ⟨p0, p1, p2, p3, p4⟩ := h3 x hx
  unfold LiM at p0 ⊢
  simp only [gs_S]
  by_cases hz : x = s
  · rw [hz] at p0 p1 p2 p3 p4 ⊢
    rw [upw_eq]
    simp (disch := omega) only [u2_ne, u2_at]
    exact ⟨p0, trivial, p2, p3, p4⟩
  · rw [upw_ne hz]
    simp (disch := omega) only [u2_ne, u2_nj]
    exact ⟨p0, p1, p2, p3, p4⟩
theorem MR_P {m : Nat} (h : MR E D Q r tk I T) : MR E (zsP D (upw (dP D) s m)) Q r tk (u2 I 521 s (nI m)) T ∧ FM I (u2 I 521 s (nI m)) := by
  obtain ⟨h1, h2, h3, h4, h5, h6, h7, h8, h9⟩ := h
  have f : FM I (u2 I 521 s (nI m)) := FM_u2 (by omega)
  refine ⟨⟨CoM_cg h1 f, ChsM_cg h2 (fun a _ _ => u2_ne (by omega)), ?_, KyM_cg h4 (u2_ne (by omega)) (u2_ne (by omega)) (u2_ne (by omega)), StM_cg h5 (fun a _ _ => u2_ne (by omega)), ScM_cg h6 (fun j _ => by rw [u2_ne (by omega)]), LaM_cg h7 (u2_ne (by omega)) (by rw [u2_ne (by omega)]), RuM_cg h8 (fun a _ => u2_ne (by omega)), VsM_cg h9 (fun a _ => u2_ne (by omega)) (fun j _ => by rw [u2_ne (by omega)])⟩, f⟩
  intro x hx
  obtain ⟨p0, p1, p2, p3, p4⟩ := h3 x hx
  unfold LiM at p0 ⊢
  simp only [gs_P]
  by_cases hz : x = s
  · rw [hz] at p0 p1 p2 p3 p4 ⊢
    rw [upw_eq]
    simp (disch := omega) only [u2_ne, u2_at]
    exact ⟨p0, p1, trivial, p3, p4⟩
  · rw [upw_ne hz]
    simp (disch := omega) only [u2_ne, u2_nj]
    exact ⟨p0, p1, p2, p3, p4⟩
theorem MR_H {m : Bool} (h : MR E D Q r tk I T) : MR E (zsH D (upw (dH D) s m)) Q r tk (u2 I 522 s (nI (b01 m))) T ∧ FM I (u2 I 522 s (nI (b01 m))) := by
  obtain ⟨h1, h2, h3, h4, h5, h6, h7, h8, h9⟩ := h
  have f : FM I (u2 I 522 s (nI (b01 m))) := FM_u2 (by omega)
  refine ⟨⟨CoM_cg h1 f, ChsM_cg h2 (fun a _ _ => u2_ne (by omega)), ?_, KyM_cg h4 (u2_ne (by omega)) (u2_ne (by omega)) (u2_ne (by omega)), StM_cg h5 (fun a _ _ => u2_ne (by omega)), ScM_cg h6 (fun j _ => by rw [u2_ne (by omega)]), LaM_cg h7 (u2_ne (by omega)) (by rw [u2_ne (by omega)]), RuM_cg h8 (fun a _ => u2_ne (by omega)), VsM_cg h9 (fun a _ => u2_ne (by omega)) (fun j _ => by rw [u2_ne (by omega)])⟩, f⟩
  intro x hx
  obtain ⟨p0, p1, p2, p3, p4⟩ := h3 x hx
  unfold LiM at p0 ⊢
  simp only [gs_H]
  by_cases hz : x = s
  · rw [hz] at p0 p1 p2 p3 p4 ⊢
    rw [upw_eq]
    simp (disch := omega) only [u2_ne, u2_at]
    exact ⟨p0, p1, p2, trivial, p4⟩
  · rw [upw_ne hz]
    simp (disch := omega) only [u2_ne, u2_nj]
    exact ⟨p0, p1, p2, p3, p4⟩
theorem MR_N {m : Nat} (h : MR E D Q r tk I T) : MR E (zsN D (upw (dN D) s m)) Q r tk (u2 I 513 s (nI m)) T ∧ FM I (u2 I 513 s (nI m)) := by
  obtain ⟨h1, h2, h3, h4, h5, h6, h7, h8, h9⟩ := h
  have f : FM I (u2 I 513 s (nI m)) := FM_u2 (by omega)
  refine ⟨⟨CoM_cg h1 f, ChsM_cg h2 (fun a _ _ => u2_ne (by omega)), ?_, KyM_cg h4 (u2_ne (by omega)) (u2_ne (by omega)) (u2_ne (by omega)), StM_cg h5 (fun a _ _ => u2_ne (by omega)), ScM_cg h6 (fun j _ => by rw [u2_ne (by omega)]), LaM_cg h7 (u2_ne (by omega)) (by rw [u2_ne (by omega)]), RuM_cg h8 (fun a _ => u2_ne (by omega)), VsM_cg h9 (fun a _ => u2_ne (by omega)) (fun j _ => by rw [u2_ne (by omega)])⟩, f⟩
  intro x hx
  obtain ⟨p0, p1, p2, p3, p4⟩ := h3 x hx
  unfold LiM at p0 ⊢
  simp only [gs_N]
  by_cases hz : x = s
  · rw [hz] at p0 p1 p2 p3 p4 ⊢
    rw [upw_eq]
    simp (disch := omega) only [u2_ne, u2_at]
    exact ⟨p0, p1, p2, p3, trivial⟩
  · rw [upw_ne hz]
    simp (disch := omega) only [u2_ne, u2_nj]
    exact ⟨p0, p1, p2, p3, p4⟩
theorem MR_L {l : List Rec} (h : MR E D Q r tk I T) (g1 : ∀ a, (a < 516 ∨ 519 < a) → I' a = I a) (g2 : ∀ x, x ≠ s → I' 516 x = I 516 x) (g3 : ∀ x, (x < 3 * s ∨ 3 * s + 3 ≤ x) → I' 517 x = I 517 x ∧ I' 518 x = I 518 x ∧ I' 519 x = I 519 x) (hl3 : ∀ x, x < 18 → (dL D x).length ≤ 3) (hn : LiM I' s l) : MR E (zsL D (upw (dL D) s l)) Q r tk I' T ∧ FM I I' := by
  obtain ⟨h1, h2, h3, h4, h5, h6, h7, h8, h9⟩ := h
  have f : FM I I' := ⟨fun a _ _ => g1 a (by omega), fun j _ => by rw [g1 492 (by omega)]⟩
  refine ⟨⟨CoM_cg h1 f, ChsM_cg h2 (fun a _ _ => g1 _ (by omega)), ?_, KyM_cg h4 (g1 _ (by omega)) (g1 _ (by omega)) (g1 _ (by omega)), StM_cg h5 (fun a _ _ => g1 _ (by omega)), ScM_cg h6 (fun j _ => by rw [g1 492 (by omega)]), LaM_cg h7 (g1 _ (by omega)) (by rw [g1 492 (by omega)]), RuM_cg h8 (fun a _ => g1 _ (by omega)), VsM_cg h9 (fun a _ => g1 _ (by omega)) (fun j _ => by rw [g1 492 (by omega)])⟩, f⟩
  intro x hx
  obtain ⟨p0, p1, p2, p3, p4⟩ := h3 x hx
  simp only [gs_L]
  rw [g1 513 (by omega), g1 520 (by omega), g1 521 (by omega), g1 522 (by omega)]
  refine ⟨?_, p1, p2, p3, p4⟩
  by_cases hz : x = s
  · rw [hz, upw_eq]; exact hn
  · rw [upw_ne hz]
    refine ⟨(g2 x hz).trans p0.1, fun j hj => ?_⟩
    have hx3 := hl3 x hx
    obtain ⟨q1, q2, q3⟩ := g3 (3 * x + j) (by omega)
    rw [q1, q2, q3]
    exact p0.2 j hj
theorem MR_C {h' : Ch} (h : MR E D Q r tk I T) (g : FrC c I I') (hl : ∀ x, x < 54 → (dC D x).1.length ≤ 4 ∧ (dC D x).2.1.length ≤ 4) (hn : ChM I' c h') : MR E (zsC D (upw (dC D) c h')) Q r tk I' T ∧ FM I I' := by
  obtain ⟨h1, h2, h3, h4, h5, h6, h7, h8, h9⟩ := h
  have f : FM I I' := ⟨fun a _ _ => g.1 a (by omega), fun j _ => by rw [g.1 492 (by omega)]⟩
  refine ⟨⟨CoM_cg h1 f, ?_, InsM_cg h3 (fun a _ => g.1 _ (by omega)), KyM_cg h4 (g.1 _ (by omega)) (g.1 _ (by omega)) (g.1 _ (by omega)), StM_cg h5 (fun a _ _ => g.1 _ (by omega)), ScM_cg h6 (fun j _ => by rw [g.1 492 (by omega)]), LaM_cg h7 (g.1 _ (by omega)) (by rw [g.1 492 (by omega)]), RuM_cg h8 (fun a _ => g.1 _ (by omega)), VsM_cg h9 (fun a _ => g.1 _ (by omega)) (fun j _ => by rw [g.1 492 (by omega)])⟩, f⟩
  intro x hx
  simp only [gs_C]
  by_cases hz : x = c
  · rw [hz, upw_eq]; exact hn
  · rw [upw_ne hz]
    exact ChM_cg (h2 x hx) g hz (hl x hx).1 (hl x hx).2
theorem MR_K {f' : Kst} (h : MR E D Q r tk I T) (g : ∀ a, a ≠ 504 → a ≠ 507 → a ≠ 510 → I' a = I a) (hn : KyM I' 504 507 510 (upw (dK D) o f')) : MR E (zsK D (upw (dK D) o f')) Q r tk I' T ∧ FM I I' := by
  obtain ⟨h1, h2, h3, h4, h5, h6, h7, h8, h9⟩ := h
  have f : FM I I' := ⟨fun a _ _ => g a (by omega) (by omega) (by omega), fun j _ => by rw [g 492 (by omega) (by omega) (by omega)]⟩
  exact ⟨⟨CoM_cg h1 f, ChsM_cg h2 (fun a _ _ => g _ (by omega) (by omega) (by omega)), InsM_cg h3 (fun a _ => g _ (by omega) (by omega) (by omega)), hn, StM_cg h5 (fun a _ _ => g _ (by omega) (by omega) (by omega)), ScM_cg h6 (fun j _ => by rw [g 492 (by omega) (by omega) (by omega)]), LaM_cg h7 (g _ (by omega) (by omega) (by omega)) (by rw [g 492 (by omega) (by omega) (by omega)]), RuM_cg h8 (fun a _ => g _ (by omega) (by omega) (by omega)), VsM_cg h9 (fun a _ => g _ (by omega) (by omega) (by omega)) (fun j _ => by rw [g 492 (by omega) (by omega) (by omega)])⟩, f⟩
theorem MR_O {m : Nat} (h : MR E D Q r tk I T) : MR E (zsO D m) Q r tk (u2 I 492 14 (nI m)) T ∧ FM I (u2 I 492 14 (nI m)) := by
  obtain ⟨h1, h2, h3, h4, h5, h6, h7, h8, h9⟩ := h
  have f : FM I (u2 I 492 14 (nI m)) := FM_f2 (by omega)
  refine ⟨⟨CoM_cg h1 f, ChsM_cg h2 (fun a _ _ => u2_ne (by omega)), InsM_cg h3 (fun a _ => u2_ne (by omega)), KyM_cg h4 (u2_ne (by omega)) (u2_ne (by omega)) (u2_ne (by omega)), StM_cg h5 (fun a _ _ => u2_ne (by omega)), ?_, LaM_cg h7 (u2_ne (by omega)) (u2_nj rfl (by omega)), RuM_cg h8 (fun a _ => u2_ne (by omega)), VsM_cg h9 (fun a _ => u2_ne (by omega)) (fun j _ => u2_nj rfl (by omega))⟩, f⟩
  refine ⟨u2_at rfl rfl, ?_, ?_⟩
  · rw [u2_nj rfl (by omega)]; exact h6.2.1
  · rw [u2_nj rfl (by omega)]; exact h6.2.2
theorem MR_tk {m : Nat} (h : MR E D Q r tk I T) : MR E D Q r m (u2 I 492 15 (nI m)) T ∧ FM I (u2 I 492 15 (nI m)) := by
  obtain ⟨h1, h2, h3, h4, h5, h6, h7, h8, h9⟩ := h
  have f : FM I (u2 I 492 15 (nI m)) := FM_f2 (by omega)
  refine ⟨⟨CoM_cg h1 f, ChsM_cg h2 (fun a _ _ => u2_ne (by omega)), InsM_cg h3 (fun a _ => u2_ne (by omega)), KyM_cg h4 (u2_ne (by omega)) (u2_ne (by omega)) (u2_ne (by omega)), StM_cg h5 (fun a _ _ => u2_ne (by omega)), ?_, LaM_cg h7 (u2_ne (by omega)) (u2_nj rfl (by omega)), RuM_cg h8 (fun a _ => u2_ne (by omega)), VsM_cg h9 (fun a _ => u2_ne (by omega)) (fun j _ => u2_nj rfl (by omega))⟩, f⟩
  refine ⟨?_, u2_at rfl rfl, ?_⟩
  · rw [u2_nj rfl (by omega)]; exact h6.1
  · rw [u2_nj rfl (by omega)]; exact h6.2.2
theorem MR_W {m : Nat} (h : MR E D Q r tk I T) : MR E (zsW D m) Q r tk (u2 I 492 38 (nI m)) T ∧ FM I (u2 I 492 38 (nI m)) := by
  obtain ⟨h1, h2, h3, h4, h5, h6, h7, h8, h9⟩ := h
  have f : FM I (u2 I 492 38 (nI m)) := FM_f2 (by omega)
  refine ⟨⟨CoM_cg h1 f, ChsM_cg h2 (fun a _ _ => u2_ne (by omega)), InsM_cg h3 (fun a _ => u2_ne (by omega)), KyM_cg h4 (u2_ne (by omega)) (u2_ne (by omega)) (u2_ne (by omega)), StM_cg h5 (fun a _ _ => u2_ne (by omega)), ?_, LaM_cg h7 (u2_ne (by omega)) (u2_nj rfl (by omega)), RuM_cg h8 (fun a _ => u2_ne (by omega)), VsM_cg h9 (fun a _ => u2_ne (by omega)) (fun j _ => u2_nj rfl (by omega))⟩, f⟩
  refine ⟨?_, ?_, fun _ => u2_at rfl rfl⟩
  · rw [u2_nj rfl (by omega)]; exact h6.1
  · rw [u2_nj rfl (by omega)]; exact h6.2.1
theorem MR_qB {b : Bool} (h : MR E D Q r tk I T) : MR E D (qP Q, qO Q, qR Q, qV Q, qC Q, qF Q, b) r tk (u2 I 492 19 (nI (b01 b))) T ∧ FM I (u2 I 492 19 (nI (b01 b))) := by
  obtain ⟨h1, h2, h3, h4, h5, h6, h7, h8, h9⟩ := h
  have f : FM I (u2 I 492 19 (nI (b01 b))) := FM_f2 (by omega)
  refine ⟨⟨CoM_cg h1 f, ChsM_cg h2 (fun a _ _ => u2_ne (by omega)), InsM_cg h3 (fun a _ => u2_ne (by omega)), KyM_cg h4 (u2_ne (by omega)) (u2_ne (by omega)) (u2_ne (by omega)), StM_cg h5 (fun a _ _ => u2_ne (by omega)), ScM_cg h6 (fun j _ => u2_nj rfl (by omega)), LaM_cg h7 (u2_ne (by omega)) (u2_nj rfl (by omega)), RuM_cg h8 (fun a _ => u2_ne (by omega)), ?_⟩, f⟩
  obtain ⟨q1, q2, q3, q4, q5, q6, q7, q8⟩ := h9
  refine ⟨KyM_cg q1 (u2_ne (by omega)) (u2_ne (by omega)) (u2_ne (by omega)), by rw [u2_ne (by omega)]; exact q2, ?_, ?_, ?_, u2_at rfl rfl, ?_, ?_⟩ <;> rw [u2_nj rfl (by omega)]
  · exact q3
  · exact q4
  · exact q5
  · exact q7
  · exact q8
/-- rows that only processes uses -/
def SCR (I I' : Iw) : Prop := (∀ a, a ≠ 492 → a ≠ 539 → a ≠ 540 → I' a = I a) ∧ ∀ j, j ≠ 68 → I' 492 j = I 492 j
theorem SCR_rf : SCR I I := ⟨fun _ _ _ _ => rfl, fun _ _ => rfl⟩
theorem MR_scr (h : MR E D Q r tk I T) (g : SCR I I') : MR E D Q r tk I' T ∧ FM I I' := by
  obtain ⟨h1, h2, h3, h4, h5, h6, h7, h8, h9⟩ := h
  have f : FM I I' := ⟨fun a _ _ => g.1 a (by omega) (by omega) (by omega), fun j _ => g.2 j (by omega)⟩
  exact ⟨⟨CoM_cg h1 f, ChsM_cg h2 (fun a _ _ => g.1 _ (by omega) (by omega) (by omega)), InsM_cg h3 (fun a _ => g.1 _ (by omega) (by omega) (by omega)), KyM_cg h4 (g.1 _ (by omega) (by omega) (by omega)) (g.1 _ (by omega) (by omega) (by omega)) (g.1 _ (by omega) (by omega) (by omega)), StM_cg h5 (fun a _ _ => g.1 _ (by omega) (by omega) (by omega)), ScM_cg h6 (fun j _ => g.2 _ (by omega)), LaM_cg h7 (g.1 _ (by omega) (by omega) (by omega)) (g.2 _ (by omega)), RuM_cg h8 (fun a _ => g.1 _ (by omega) (by omega) (by omega)), VsM_cg h9 (fun a _ => g.1 _ (by omega) (by omega) (by omega)) (fun j _ => g.2 _ (by omega))⟩, f⟩
theorem MR_lat {t m : Nat} {w : Int64} {u : Int32} (h : MR E D Q r tk I T) (hm : m = dT D t + 1) (hw : w.toInt32 = u) : MR E (zsU (zsM (zsT D (upw (dT D) t m)) (dM D + 1)) u) Q r tk (u2 (u2 I 534 t (nI m)) 492 58 (nI (dM D + 1))) (seJ T 492 59 w) ∧ FM I (u2 (u2 I 534 t (nI m)) 492 58 (nI (dM D + 1))) := by
  obtain ⟨h1, h2, h3, h4, h5, h6, h7, h8, h9⟩ := h
  have f : FM I (u2 (u2 I 534 t (nI m)) 492 58 (nI (dM D + 1))) := FM_tr (FM_u2 (by omega)) (FM_f2 (by omega))
  refine ⟨⟨CoM_cg h1 f, ChsM_cg h2 (fun a _ _ => by rw [u2_ne (by omega), u2_ne (by omega)]), InsM_cg h3 (fun a _ => by rw [u2_ne (by omega), u2_ne (by omega)]), KyM_cg h4 (by rw [u2_ne (by omega), u2_ne (by omega)]) (by rw [u2_ne (by omega), u2_ne (by omega)]) (by rw [u2_ne (by omega), u2_ne (by omega)]), StM_cg h5 (fun a _ _ => by rw [u2_ne (by omega), u2_ne (by omega)]), ScM_cg h6 (fun j _ => by rw [u2_nj rfl (by omega), u2_ne (by omega)]), ?_, RuM_cg h8 (fun a _ => by rw [u2_ne (by omega), u2_ne (by omega)]), VsM_cg h9 (fun a _ => by rw [u2_ne (by omega), u2_ne (by omega)]) (fun j _ => by rw [u2_nj rfl (by omega), u2_ne (by omega)])⟩, f⟩
  refine ⟨fun x hx => ?_, u2_at rfl rfl, ?_⟩
  · simp only [gs_U, gs_M, gs_T]
    rw [u2_ne (by omega)]
    by_cases hz : x = t
    · rw [hz, upw_eq]; exact u2_at rfl rfl
    · rw [upw_ne hz, u2_nj rfl hz]; exact h7.1 x hx
  · show (u2 (tJ T) 492 59 w 492 59).toInt32 = u
    rw [u2_at rfl rfl]; exact hw
end
