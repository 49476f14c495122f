/-! THE SYSTEM AS A PURE MACHINE: its words -/
def upw {α : Type} (f : Nat → α) (k : Nat) (v : α) : Nat → α := fun a => if a = k then v else f a
theorem upw_eq {α : Type} {f : Nat → α} {k : Nat} {v : α} : upw f k v k = v := if_pos rfl
theorem upw_ne {α : Type} {f : Nat → α} {k a : Nat} {v : α} (h : a ≠ k) : upw f k v a = f a := if_neg h
/-- a record: key, value, birth -/
abbrev Rec : Type := Fin 16 × Int32 × Nat
/-- a closed batch: none is a barrier -/
abbrev Bt : Type := Option (List Rec)
/-- a channel: queue, the batch that is filled, its age -/
abbrev Ch : Type := List Bt × List Rec × Nat
/-- states by key -/
abbrev Kst : Type := Fin 16 → Option (Int32 × Int32)
/-- what a tick doesn't change: stages, kinds, a, b, instances, batch size, greatest age, credits, rate, input, ticks, running checkpoint -/
abbrev Env : Type := Nat × (Nat → Nat) × (Nat → Int32) × (Nat → Int32) × (Nat → Nat) × Nat × Nat × Nat × Nat × (List (Fin 16 × Int32)) × Nat × Nat
def eN (D : Env) : Nat := D.1
def eK (D : Env) : Nat → Nat := D.2.1
def eA (D : Env) : Nat → Int32 := D.2.2.1
def eB (D : Env) : Nat → Int32 := D.2.2.2.1
def eP (D : Env) : Nat → Nat := D.2.2.2.2.1
def eS (D : Env) : Nat := D.2.2.2.2.2.1
def eG (D : Env) : Nat := D.2.2.2.2.2.2.1
def eC (D : Env) : Nat := D.2.2.2.2.2.2.2.1
def eR (D : Env) : Nat := D.2.2.2.2.2.2.2.2.1
def eI (D : Env) : List (Fin 16 × Int32) := D.2.2.2.2.2.2.2.2.2.1
def eT (D : Env) : Nat := D.2.2.2.2.2.2.2.2.2.2.1
def eQ (D : Env) : Nat := D.2.2.2.2.2.2.2.2.2.2.2
/-- what a tick changes: channels, lists, barriers held, stopped, pointers, counters, who has saved, counters saved, states, states saved; processed, emitted, blocked, idle; latencies, their number, their sum; offset; sinks that have saved -/
abbrev Dy : Type := (Nat → Ch) × (Nat → List Rec) × (Nat → Bool) × (Nat → Nat) × (Nat → Nat) × (Nat → Nat) × (Nat → Bool) × (Nat → Nat) × (Nat → Kst) × (Nat → Kst) × (Nat → Int32) × (Nat → Int32) × (Nat → Int32) × (Nat → Int32) × (Nat → Nat) × Nat × Int32 × Nat × Nat
def dC (D : Dy) : Nat → Ch := D.1
def dL (D : Dy) : Nat → List Rec := D.2.1
def dH (D : Dy) : Nat → Bool := D.2.2.1
def dS (D : Dy) : Nat → Nat := D.2.2.2.1
def dP (D : Dy) : Nat → Nat := D.2.2.2.2.1
def dN (D : Dy) : Nat → Nat := D.2.2.2.2.2.1
def dD (D : Dy) : Nat → Bool := D.2.2.2.2.2.2.1
def dR (D : Dy) : Nat → Nat := D.2.2.2.2.2.2.2.1
def dK (D : Dy) : Nat → Kst := D.2.2.2.2.2.2.2.2.1
def dG (D : Dy) : Nat → Kst := D.2.2.2.2.2.2.2.2.2.1
def dX (D : Dy) : Nat → Int32 := D.2.2.2.2.2.2.2.2.2.2.1
def dY (D : Dy) : Nat → Int32 := D.2.2.2.2.2.2.2.2.2.2.2.1
def dB (D : Dy) : Nat → Int32 := D.2.2.2.2.2.2.2.2.2.2.2.2.1
def dI (D : Dy) : Nat → Int32 := D.2.2.2.2.2.2.2.2.2.2.2.2.2.1
def dT (D : Dy) : Nat → Nat := D.2.2.2.2.2.2.2.2.2.2.2.2.2.2.1
def dM (D : Dy) : Nat := D.2.2.2.2.2.2.2.2.2.2.2.2.2.2.2.1
def dU (D : Dy) : Int32 := D.2.2.2.2.2.2.2.2.2.2.2.2.2.2.2.2.1
def dO (D : Dy) : Nat := D.2.2.2.2.2.2.2.2.2.2.2.2.2.2.2.2.2.1
def dW (D : Dy) : Nat := D.2.2.2.2.2.2.2.2.2.2.2.2.2.2.2.2.2.2
def zsC (D : Dy) (v : Nat → Ch) : Dy := (v, D.2)
def zsL (D : Dy) (v : Nat → List Rec) : Dy := (D.1, v, D.2.2)
def zsH (D : Dy) (v : Nat → Bool) : Dy := (D.1, D.2.1, v, D.2.2.2)
def zsS (D : Dy) (v : Nat → Nat) : Dy := (D.1, D.2.1, D.2.2.1, v, D.2.2.2.2)
def zsP (D : Dy) (v : Nat → Nat) : Dy := (D.1, D.2.1, D.2.2.1, D.2.2.2.1, v, D.2.2.2.2.2)
def zsN (D : Dy) (v : Nat → Nat) : Dy := (D.1, D.2.1, D.2.2.1, D.2.2.2.1, D.2.2.2.2.1, v, D.2.2.2.2.2.2)
def zsD (D : Dy) (v : Nat → Bool) : Dy := (D.1, D.2.1, D.2.2.1, D.2.2.2.1, D.2.2.2.2.1, D.2.2.2.2.2.1, v, D.2.2.2.2.2.2.2)
def zsR (D : Dy) (v : Nat → Nat) : Dy := (D.1, D.2.1, D.2.2.1, D.2.2.2.1, D.2.2.2.2.1, D.2.2.2.2.2.1, D.2.2.2.2.2.2.1, v, D.2.2.2.2.2.2.2.2)
def zsK (D : Dy) (v : Nat → Kst) : Dy := (D.1, D.2.1, D.2.2.1, D.2.2.2.1, D.2.2.2.2.1, D.2.2.2.2.2.1, D.2.2.2.2.2.2.1, D.2.2.2.2.2.2.2.1, v, D.2.2.2.2.2.2.2.2.2)
def zsG (D : Dy) (v : Nat → Kst) : Dy := (D.1, D.2.1, D.2.2.1, D.2.2.2.1, D.2.2.2.2.1, D.2.2.2.2.2.1, D.2.2.2.2.2.2.1, D.2.2.2.2.2.2.2.1, D.2.2.2.2.2.2.2.2.1, v, D.2.2.2.2.2.2.2.2.2.2)
def zsX (D : Dy) (v : Nat → Int32) : Dy := (D.1, D.2.1, D.2.2.1, D.2.2.2.1, D.2.2.2.2.1, D.2.2.2.2.2.1, D.2.2.2.2.2.2.1, D.2.2.2.2.2.2.2.1, D.2.2.2.2.2.2.2.2.1, D.2.2.2.2.2.2.2.2.2.1, v, D.2.2.2.2.2.2.2.2.2.2.2)
def zsY (D : Dy) (v : Nat → Int32) : Dy := (D.1, D.2.1, D.2.2.1, D.2.2.2.1, D.2.2.2.2.1, D.2.2.2.2.2.1, D.2.2.2.2.2.2.1, D.2.2.2.2.2.2.2.1, D.2.2.2.2.2.2.2.2.1, D.2.2.2.2.2.2.2.2.2.1, D.2.2.2.2.2.2.2.2.2.2.1, v, D.2.2.2.2.2.2.2.2.2.2.2.2)
def zsB (D : Dy) (v : Nat → Int32) : Dy := (D.1, D.2.1, D.2.2.1, D.2.2.2.1, D.2.2.2.2.1, D.2.2.2.2.2.1, D.2.2.2.2.2.2.1, D.2.2.2.2.2.2.2.1, D.2.2.2.2.2.2.2.2.1, D.2.2.2.2.2.2.2.2.2.1, D.2.2.2.2.2.2.2.2.2.2.1, D.2.2.2.2.2.2.2.2.2.2.2.1, v, D.2.2.2.2.2.2.2.2.2.2.2.2.2)
def zsI (D : Dy) (v : Nat → Int32) : Dy := (D.1, D.2.1, D.2.2.1, D.2.2.2.1, D.2.2.2.2.1, D.2.2.2.2.2.1, D.2.2.2.2.2.2.1, D.2.2.2.2.2.2.2.1, D.2.2.2.2.2.2.2.2.1, D.2.2.2.2.2.2.2.2.2.1, D.2.2.2.2.2.2.2.2.2.2.1, D.2.2.2.2.2.2.2.2.2.2.2.1, D.2.2.2.2.2.2.2.2.2.2.2.2.1, v, D.2.2.2.2.2.2.2.2.2.2.2.2.2.2)
def zsT (D : Dy) (v : Nat → Nat) : Dy := (D.1, D.2.1, D.2.2.1, D.2.2.2.1, D.2.2.2.2.1, D.2.2.2.2.2.1, D.2.2.2.2.2.2.1, D.2.2.2.2.2.2.2.1, D.2.2.2.2.2.2.2.2.1, D.2.2.2.2.2.2.2.2.2.1, D.2.2.2.2.2.2.2.2.2.2.1, D.2.2.2.2.2.2.2.2.2.2.2.1, D.2.2.2.2.2.2.2.2.2.2.2.2.1, D.2.2.2.2.2.2.2.2.2.2.2.2.2.1, v, D.2.2.2.2.2.2.2.2.2.2.2.2.2.2.2)
def zsM (D : Dy) (v : Nat) : Dy := (D.1, D.2.1, D.2.2.1, D.2.2.2.1, D.2.2.2.2.1, D.2.2.2.2.2.1, D.2.2.2.2.2.2.1, D.2.2.2.2.2.2.2.1, D.2.2.2.2.2.2.2.2.1, D.2.2.2.2.2.2.2.2.2.1, D.2.2.2.2.2.2.2.2.2.2.1, D.2.2.2.2.2.2.2.2.2.2.2.1, D.2.2.2.2.2.2.2.2.2.2.2.2.1, D.2.2.2.2.2.2.2.2.2.2.2.2.2.1, D.2.2.2.2.2.2.2.2.2.2.2.2.2.2.1, v, D.2.2.2.2.2.2.2.2.2.2.2.2.2.2.2.2)
def zsU (D : Dy) (v : Int32) : Dy := (D.1, D.2.1, D.2.2.1, D.2.2.2.1, D.2.2.2.2.1, D.2.2.2.2.2.1, D.2.2.2.2.2.2.1, D.2.2.2.2.2.2.2.1, D.2.2.2.2.2.2.2.2.1, D.2.2.2.2.2.2.2.2.2.1, D.2.2.2.2.2.2.2.2.2.2.1, D.2.2.2.2.2.2.2.2.2.2.2.1, D.2.2.2.2.2.2.2.2.2.2.2.2.1, D.2.2.2.2.2.2.2.2.2.2.2.2.2.1, D.2.2.2.2.2.2.2.2.2.2.2.2.2.2.1, D.2.2.2.2.2.2.2.2.2.2.2.2.2.2.2.1, v, D.2.2.2.2.2.2.2.2.2.2.2.2.2.2.2.2.2)
def zsO (D : Dy) (v : Nat) : Dy := (D.1, D.2.1, D.2.2.1, D.2.2.2.1, D.2.2.2.2.1, D.2.2.2.2.2.1, D.2.2.2.2.2.2.1, D.2.2.2.2.2.2.2.1, D.2.2.2.2.2.2.2.2.1, D.2.2.2.2.2.2.2.2.2.1, D.2.2.2.2.2.2.2.2.2.2.1, D.2.2.2.2.2.2.2.2.2.2.2.1, D.2.2.2.2.2.2.2.2.2.2.2.2.1, D.2.2.2.2.2.2.2.2.2.2.2.2.2.1, D.2.2.2.2.2.2.2.2.2.2.2.2.2.2.1, D.2.2.2.2.2.2.2.2.2.2.2.2.2.2.2.1, D.2.2.2.2.2.2.2.2.2.2.2.2.2.2.2.2.1, v, D.2.2.2.2.2.2.2.2.2.2.2.2.2.2.2.2.2.2)
def zsW (D : Dy) (v : Nat) : Dy := (D.1, D.2.1, D.2.2.1, D.2.2.2.1, D.2.2.2.2.1, D.2.2.2.2.2.1, D.2.2.2.2.2.2.1, D.2.2.2.2.2.2.2.1, D.2.2.2.2.2.2.2.2.1, D.2.2.2.2.2.2.2.2.2.1, D.2.2.2.2.2.2.2.2.2.2.1, D.2.2.2.2.2.2.2.2.2.2.2.1, D.2.2.2.2.2.2.2.2.2.2.2.2.1, D.2.2.2.2.2.2.2.2.2.2.2.2.2.1, D.2.2.2.2.2.2.2.2.2.2.2.2.2.2.1, D.2.2.2.2.2.2.2.2.2.2.2.2.2.2.2.1, D.2.2.2.2.2.2.2.2.2.2.2.2.2.2.2.2.1, D.2.2.2.2.2.2.2.2.2.2.2.2.2.2.2.2.2.1, v)
theorem gs_C (D : Dy) (v : Nat → Ch) : dC (zsC D v) = v ∧ dL (zsC D v) = dL D ∧ dH (zsC D v) = dH D ∧ dS (zsC D v) = dS D ∧ dP (zsC D v) = dP D ∧ dN (zsC D v) = dN D ∧ dD (zsC D v) = dD D ∧ dR (zsC D v) = dR D ∧ dK (zsC D v) = dK D ∧ dG (zsC D v) = dG D ∧ dX (zsC D v) = dX D ∧ dY (zsC D v) = dY D ∧ dB (zsC D v) = dB D ∧ dI (zsC D v) = dI D ∧ dT (zsC D v) = dT D ∧ dM (zsC D v) = dM D ∧ dU (zsC D v) = dU D ∧ dO (zsC D v) = dO D ∧ dW (zsC D v) = dW D := ⟨rfl, rfl, rfl, rfl, rfl, rfl, rfl, rfl, rfl, rfl, rfl, rfl, rfl, rfl, rfl, rfl, rfl, rfl, rfl⟩
theorem gs_L (D : Dy) (v : Nat → List Rec) : dC (zsL D v) = dC D ∧ dL (zsL D v) = v ∧ dH (zsL D v) = dH D ∧ dS (zsL D v) = dS D ∧ dP (zsL D v) = dP D ∧ dN (zsL D v) = dN D ∧ dD (zsL D v) = dD D ∧ dR (zsL D v) = dR D ∧ dK (zsL D v) = dK D ∧ dG (zsL D v) = dG D ∧ dX (zsL D v) = dX D ∧ dY (zsL D v) = dY D ∧ dB (zsL D v) = dB D ∧ dI (zsL D v) = dI D ∧ dT (zsL D v) = dT D ∧ dM (zsL D v) = dM D ∧ dU (zsL D v) = dU D ∧ dO (zsL D v) = dO D ∧ dW (zsL D v) = dW D := ⟨rfl, rfl, rfl, rfl, rfl, rfl, rfl, rfl, rfl, rfl, rfl, rfl, rfl, rfl, rfl, rfl, rfl, rfl, rfl⟩
theorem gs_H (D : Dy) (v : Nat → Bool) : dC (zsH D v) = dC D ∧ dL (zsH D v) = dL D ∧ dH (zsH D v) = v ∧ dS (zsH D v) = dS D ∧ dP (zsH D v) = dP D ∧ dN (zsH D v) = dN D ∧ dD (zsH D v) = dD D ∧ dR (zsH D v) = dR D ∧ dK (zsH D v) = dK D ∧ dG (zsH D v) = dG D ∧ dX (zsH D v) = dX D ∧ dY (zsH D v) = dY D ∧ dB (zsH D v) = dB D ∧ dI (zsH D v) = dI D ∧ dT (zsH D v) = dT D ∧ dM (zsH D v) = dM D ∧ dU (zsH D v) = dU D ∧ dO (zsH D v) = dO D ∧ dW (zsH D v) = dW D := ⟨rfl, rfl, rfl, rfl, rfl, rfl, rfl, rfl, rfl, rfl, rfl, rfl, rfl, rfl, rfl, rfl, rfl, rfl, rfl⟩
theorem gs_S (D : Dy) (v : Nat → Nat) : dC (zsS D v) = dC D ∧ dL (zsS D v) = dL D ∧ dH (zsS D v) = dH D ∧ dS (zsS D v) = v ∧ dP (zsS D v) = dP D ∧ dN (zsS D v) = dN D ∧ dD (zsS D v) = dD D ∧ dR (zsS D v) = dR D ∧ dK (zsS D v) = dK D ∧ dG (zsS D v) = dG D ∧ dX (zsS D v) = dX D ∧ dY (zsS D v) = dY D ∧ dB (zsS D v) = dB D ∧ dI (zsS D v) = dI D ∧ dT (zsS D v) = dT D ∧ dM (zsS D v) = dM D ∧ dU (zsS D v) = dU D ∧ dO (zsS D v) = dO D ∧ dW (zsS D v) = dW D := ⟨rfl, rfl, rfl, rfl, rfl, rfl, rfl, rfl, rfl, rfl, rfl, rfl, rfl, rfl, rfl, rfl, rfl, rfl, rfl⟩
theorem gs_P (D : Dy) (v : Nat → Nat) : dC (zsP D v) = dC D ∧ dL (zsP D v) = dL D ∧ dH (zsP D v) = dH D ∧ dS (zsP D v) = dS D ∧ dP (zsP D v) = v ∧ dN (zsP D v) = dN D ∧ dD (zsP D v) = dD D ∧ dR (zsP D v) = dR D ∧ dK (zsP D v) = dK D ∧ dG (zsP D v) = dG D ∧ dX (zsP D v) = dX D ∧ dY (zsP D v) = dY D ∧ dB (zsP D v) = dB D ∧ dI (zsP D v) = dI D ∧ dT (zsP D v) = dT D ∧ dM (zsP D v) = dM D ∧ dU (zsP D v) = dU D ∧ dO (zsP D v) = dO D ∧ dW (zsP D v) = dW D := ⟨rfl, rfl, rfl, rfl, rfl, rfl, rfl, rfl, rfl, rfl, rfl, rfl, rfl, rfl, rfl, rfl, rfl, rfl, rfl⟩
theorem gs_N (D : Dy) (v : Nat → Nat) : dC (zsN D v) = dC D ∧ dL (zsN D v) = dL D ∧ dH (zsN D v) = dH D ∧ dS (zsN D v) = dS D ∧ dP (zsN D v) = dP D ∧ dN (zsN D v) = v ∧ dD (zsN D v) = dD D ∧ dR (zsN D v) = dR D ∧ dK (zsN D v) = dK D ∧ dG (zsN D v) = dG D ∧ dX (zsN D v) = dX D ∧ dY (zsN D v) = dY D ∧ dB (zsN D v) = dB D ∧ dI (zsN D v) = dI D ∧ dT (zsN D v) = dT D ∧ dM (zsN D v) = dM D ∧ dU (zsN D v) = dU D ∧ dO (zsN D v) = dO D ∧ dW (zsN D v) = dW D := ⟨rfl, rfl, rfl, rfl, rfl, rfl, rfl, rfl, rfl, rfl, rfl, rfl, rfl, rfl, rfl, rfl, rfl, rfl, rfl⟩
theorem gs_D (D : Dy) (v : Nat → Bool) : dC (zsD D v) = dC D ∧ dL (zsD D v) = dL D ∧ dH (zsD D v) = dH D ∧ dS (zsD D v) = dS D ∧ dP (zsD D v) = dP D ∧ dN (zsD D v) = dN D ∧ dD (zsD D v) = v ∧ dR (zsD D v) = dR D ∧ dK (zsD D v) = dK D ∧ dG (zsD D v) = dG D ∧ dX (zsD D v) = dX D ∧ dY (zsD D v) = dY D ∧ dB (zsD D v) = dB D ∧ dI (zsD D v) = dI D ∧ dT (zsD D v) = dT D ∧ dM (zsD D v) = dM D ∧ dU (zsD D v) = dU D ∧ dO (zsD D v) = dO D ∧ dW (zsD D v) = dW D := ⟨rfl, rfl, rfl, rfl, rfl, rfl, rfl, rfl, rfl, rfl, rfl, rfl, rfl, rfl, rfl, rfl, rfl, rfl, rfl⟩
theorem gs_R (D : Dy) (v : Nat → Nat) : dC (zsR D v) = dC D ∧ dL (zsR D v) = dL D ∧ dH (zsR D v) = dH D ∧ dS (zsR D v) = dS D ∧ dP (zsR D v) = dP D ∧ dN (zsR D v) = dN D ∧ dD (zsR D v) = dD D ∧ dR (zsR D v) = v ∧ dK (zsR D v) = dK D ∧ dG (zsR D v) = dG D ∧ dX (zsR D v) = dX D ∧ dY (zsR D v) = dY D ∧ dB (zsR D v) = dB D ∧ dI (zsR D v) = dI D ∧ dT (zsR D v) = dT D ∧ dM (zsR D v) = dM D ∧ dU (zsR D v) = dU D ∧ dO (zsR D v) = dO D ∧ dW (zsR D v) = dW D := ⟨rfl, rfl, rfl, rfl, rfl, rfl, rfl, rfl, rfl, rfl, rfl, rfl, rfl, rfl, rfl, rfl, rfl, rfl, rfl⟩
theorem gs_K (D : Dy) (v : Nat → Kst) : dC (zsK D v) = dC D ∧ dL (zsK D v) = dL D ∧ dH (zsK D v) = dH D ∧ dS (zsK D v) = dS D ∧ dP (zsK D v) = dP D ∧ dN (zsK D v) = dN D ∧ dD (zsK D v) = dD D ∧ dR (zsK D v) = dR D ∧ dK (zsK D v) = v ∧ dG (zsK D v) = dG D ∧ dX (zsK D v) = dX D ∧ dY (zsK D v) = dY D ∧ dB (zsK D v) = dB D ∧ dI (zsK D v) = dI D ∧ dT (zsK D v) = dT D ∧ dM (zsK D v) = dM D ∧ dU (zsK D v) = dU D ∧ dO (zsK D v) = dO D ∧ dW (zsK D v) = dW D := ⟨rfl, rfl, rfl, rfl, rfl, rfl, rfl, rfl, rfl, rfl, rfl, rfl, rfl, rfl, rfl, rfl, rfl, rfl, rfl⟩
theorem gs_G (D : Dy) (v : Nat → Kst) : dC (zsG D v) = dC D ∧ dL (zsG D v) = dL D ∧ dH (zsG D v) = dH D ∧ dS (zsG D v) = dS D ∧ dP (zsG D v) = dP D ∧ dN (zsG D v) = dN D ∧ dD (zsG D v) = dD D ∧ dR (zsG D v) = dR D ∧ dK (zsG D v) = dK D ∧ dG (zsG D v) = v ∧ dX (zsG D v) = dX D ∧ dY (zsG D v) = dY D ∧ dB (zsG D v) = dB D ∧ dI (zsG D v) = dI D ∧ dT (zsG D v) = dT D ∧ dM (zsG D v) = dM D ∧ dU (zsG D v) = dU D ∧ dO (zsG D v) = dO D ∧ dW (zsG D v) = dW D := ⟨rfl, rfl, rfl, rfl, rfl, rfl, rfl, rfl, rfl, rfl, rfl, rfl, rfl, rfl, rfl, rfl, rfl, rfl, rfl⟩
theorem gs_X (D : Dy) (v : Nat → Int32) : dC (zsX D v) = dC D ∧ dL (zsX D v) = dL D ∧ dH (zsX D v) = dH D ∧ dS (zsX D v) = dS D ∧ dP (zsX D v) = dP D ∧ dN (zsX D v) = dN D ∧ dD (zsX D v) = dD D ∧ dR (zsX D v) = dR D ∧ dK (zsX D v) = dK D ∧ dG (zsX D v) = dG D ∧ dX (zsX D v) = v ∧ dY (zsX D v) = dY D ∧ dB (zsX D v) = dB D ∧ dI (zsX D v) = dI D ∧ dT (zsX D v) = dT D ∧ dM (zsX D v) = dM D ∧ dU (zsX D v) = dU D ∧ dO (zsX D v) = dO D ∧ dW (zsX D v) = dW D := ⟨rfl, rfl, rfl, rfl, rfl, rfl, rfl, rfl, rfl, rfl, rfl, rfl, rfl, rfl, rfl, rfl, rfl, rfl, rfl⟩
theorem gs_Y (D : Dy) (v : Nat → Int32) : dC (zsY D v) = dC D ∧ dL (zsY D v) = dL D ∧ dH (zsY D v) = dH D ∧ dS (zsY D v) = dS D ∧ dP (zsY D v) = dP D ∧ dN (zsY D v) = dN D ∧ dD (zsY D v) = dD D ∧ dR (zsY D v) = dR D ∧ dK (zsY D v) = dK D ∧ dG (zsY D v) = dG D ∧ dX (zsY D v) = dX D ∧ dY (zsY D v) = v ∧ dB (zsY D v) = dB D ∧ dI (zsY D v) = dI D ∧ dT (zsY D v) = dT D ∧ dM (zsY D v) = dM D ∧ dU (zsY D v) = dU D ∧ dO (zsY D v) = dO D ∧ dW (zsY D v) = dW D := ⟨rfl, rfl, rfl, rfl, rfl, rfl, rfl, rfl, rfl, rfl, rfl, rfl, rfl, rfl, rfl, rfl, rfl, rfl, rfl⟩
theorem gs_B (D : Dy) (v : Nat → Int32) : dC (zsB D v) = dC D ∧ dL (zsB D v) = dL D ∧ dH (zsB D v) = dH D ∧ dS (zsB D v) = dS D ∧ dP (zsB D v) = dP D ∧ dN (zsB D v) = dN D ∧ dD (zsB D v) = dD D ∧ dR (zsB D v) = dR D ∧ dK (zsB D v) = dK D ∧ dG (zsB D v) = dG D ∧ dX (zsB D v) = dX D ∧ dY (zsB D v) = dY D ∧ dB (zsB D v) = v ∧ dI (zsB D v) = dI D ∧ dT (zsB D v) = dT D ∧ dM (zsB D v) = dM D ∧ dU (zsB D v) = dU D ∧ dO (zsB D v) = dO D ∧ dW (zsB D v) = dW D := ⟨rfl, rfl, rfl, rfl, rfl, rfl, rfl, rfl, rfl, rfl, rfl, rfl, rfl, rfl, rfl, rfl, rfl, rfl, rfl⟩
theorem gs_I (D : Dy) (v : Nat → Int32) : dC (zsI D v) = dC D ∧ dL (zsI D v) = dL D ∧ dH (zsI D v) = dH D ∧ dS (zsI D v) = dS D ∧ dP (zsI D v) = dP D ∧ dN (zsI D v) = dN D ∧ dD (zsI D v) = dD D ∧ dR (zsI D v) = dR D ∧ dK (zsI D v) = dK D ∧ dG (zsI D v) = dG D ∧ dX (zsI D v) = dX D ∧ dY (zsI D v) = dY D ∧ dB (zsI D v) = dB D ∧ dI (zsI D v) = v ∧ dT (zsI D v) = dT D ∧ dM (zsI D v) = dM D ∧ dU (zsI D v) = dU D ∧ dO (zsI D v) = dO D ∧ dW (zsI D v) = dW D := ⟨rfl, rfl, rfl, rfl, rfl, rfl, rfl, rfl, rfl, rfl, rfl, rfl, rfl, rfl, rfl, rfl, rfl, rfl, rfl⟩
theorem gs_T (D : Dy) (v : Nat → Nat) : dC (zsT D v) = dC D ∧ dL (zsT D v) = dL D ∧ dH (zsT D v) = dH D ∧ dS (zsT D v) = dS D ∧ dP (zsT D v) = dP D ∧ dN (zsT D v) = dN D ∧ dD (zsT D v) = dD D ∧ dR (zsT D v) = dR D ∧ dK (zsT D v) = dK D ∧ dG (zsT D v) = dG D ∧ dX (zsT D v) = dX D ∧ dY (zsT D v) = dY D ∧ dB (zsT D v) = dB D ∧ dI (zsT D v) = dI D ∧ dT (zsT D v) = v ∧ dM (zsT D v) = dM D ∧ dU (zsT D v) = dU D ∧ dO (zsT D v) = dO D ∧ dW (zsT D v) = dW D := ⟨rfl, rfl, rfl, rfl, rfl, rfl, rfl, rfl, rfl, rfl, rfl, rfl, rfl, rfl, rfl, rfl, rfl, rfl, rfl⟩
theorem gs_M (D : Dy) (v : Nat) : dC (zsM D v) = dC D ∧ dL (zsM D v) = dL D ∧ dH (zsM D v) = dH D ∧ dS (zsM D v) = dS D ∧ dP (zsM D v) = dP D ∧ dN (zsM D v) = dN D ∧ dD (zsM D v) = dD D ∧ dR (zsM D v) = dR D ∧ dK (zsM D v) = dK D ∧ dG (zsM D v) = dG D ∧ dX (zsM D v) = dX D ∧ dY (zsM D v) = dY D ∧ dB (zsM D v) = dB D ∧ dI (zsM D v) = dI D ∧ dT (zsM D v) = dT D ∧ dM (zsM D v) = v ∧ dU (zsM D v) = dU D ∧ dO (zsM D v) = dO D ∧ dW (zsM D v) = dW D := ⟨rfl, rfl, rfl, rfl, rfl, rfl, rfl, rfl, rfl, rfl, rfl, rfl, rfl, rfl, rfl, rfl, rfl, rfl, rfl⟩
theorem gs_U (D : Dy) (v : Int32) : dC (zsU D v) = dC D ∧ dL (zsU D v) = dL D ∧ dH (zsU D v) = dH D ∧ dS (zsU D v) = dS D ∧ dP (zsU D v) = dP D ∧ dN (zsU D v) = dN D ∧ dD (zsU D v) = dD D ∧ dR (zsU D v) = dR D ∧ dK (zsU D v) = dK D ∧ dG (zsU D v) = dG D ∧ dX (zsU D v) = dX D ∧ dY (zsU D v) = dY D ∧ dB (zsU D v) = dB D ∧ dI (zsU D v) = dI D ∧ dT (zsU D v) = dT D ∧ dM (zsU D v) = dM D ∧ dU (zsU D v) = v ∧ dO (zsU D v) = dO D ∧ dW (zsU D v) = dW D := ⟨rfl, rfl, rfl, rfl, rfl, rfl, rfl, rfl, rfl, rfl, rfl, rfl, rfl, rfl, rfl, rfl, rfl, rfl, rfl⟩
theorem gs_O (D : Dy) (v : Nat) : dC (zsO D v) = dC D ∧ dL (zsO D v) = dL D ∧ dH (zsO D v) = dH D ∧ dS (zsO D v) = dS D ∧ dP (zsO D v) = dP D ∧ dN (zsO D v) = dN D ∧ dD (zsO D v) = dD D ∧ dR (zsO D v) = dR D ∧ dK (zsO D v) = dK D ∧ dG (zsO D v) = dG D ∧ dX (zsO D v) = dX D ∧ dY (zsO D v) = dY D ∧ dB (zsO D v) = dB D ∧ dI (zsO D v) = dI D ∧ dT (zsO D v) = dT D ∧ dM (zsO D v) = dM D ∧ dU (zsO D v) = dU D ∧ dO (zsO D v) = v ∧ dW (zsO D v) = dW D := ⟨rfl, rfl, rfl, rfl, rfl, rfl, rfl, rfl, rfl, rfl, rfl, rfl, rfl, rfl, rfl, rfl, rfl, rfl, rfl⟩
theorem gs_W (D : Dy) (v : Nat) : dC (zsW D v) = dC D ∧ dL (zsW D v) = dL D ∧ dH (zsW D v) = dH D ∧ dS (zsW D v) = dS D ∧ dP (zsW D v) = dP D ∧ dN (zsW D v) = dN D ∧ dD (zsW D v) = dD D ∧ dR (zsW D v) = dR D ∧ dK (zsW D v) = dK D ∧ dG (zsW D v) = dG D ∧ dX (zsW D v) = dX D ∧ dY (zsW D v) = dY D ∧ dB (zsW D v) = dB D ∧ dI (zsW D v) = dI D ∧ dT (zsW D v) = dT D ∧ dM (zsW D v) = dM D ∧ dU (zsW D v) = dU D ∧ dO (zsW D v) = dO D ∧ dW (zsW D v) = v := ⟨rfl, rfl, rfl, rfl, rfl, rfl, rfl, rfl, rfl, rfl, rfl, rfl, rfl, rfl, rfl, rfl, rfl, rfl, rfl⟩
def kyd (k : Nat) : Bool := k == 4 || k == 5 || k == 6 || k == 8
def home (p : Nat) (k : Fin 16) : Nat := k.val % 8 * p / 8
def spt (o i : Nat) : Nat := 3 * o + i
def lin (o i j : Nat) : Nat := 9 * o + 3 * i + j
def goal (E : Env) (D : Dy) (o i : Nat) (k : Fin 16) : Nat := if kyd (eK E (o + 1)) then home (eP E (o + 1)) k else dN D (spt o i) % eP E (o + 1)
-- channels
def tkR (s c : Nat) (h : Ch) : Bool := decide (h.2.1.length < s) || decide (h.1.length < c)
def tkB (c : Nat) (h : Ch) : Bool := decide (h.1.length + (if h.2.1 = [] then 0 else 1) < c)
def clo1 (h : Ch) : Ch := (h.1 ++ [some h.2.1], [], 0)
def putR1 (h : Ch) (r : Rec) : Ch := (h.1, h.2.1 ++ [r], h.2.2)
def putR (s c : Nat) (h : Ch) (r : Rec) : Ch :=
  let h1 := putR1 (if s ≤ h.2.1.length then clo1 h else h) r
  if s ≤ h1.2.1.length ∧ h1.1.length < c then clo1 h1 else h1
def putB (h : Ch) : Ch :=
  let h1 := if h.2.1 = [] then h else clo1 h
  (h1.1 ++ [none], h1.2)
def grow (g c : Nat) (h : Ch) : Ch :=
  if h.2.1 = [] then h else if g ≤ h.2.2 + 1 ∧ h.1.length < c then clo1 h else (h.1, h.2.1, h.2.2 + 1)
-- kinds
def rek (x : Int32) : Fin 16 := Fin.ofNat 16 (x.toInt % 16).toNat
def kv (k : Fin 16) : Int32 := nI k.val
def proc (kind : Nat) (a b : Int32) (st : Option (Int32 × Int32)) (k : Fin 16) (v : Int32) : List (Fin 16 × Int32) × Option (Int32 × Int32) :=
  match kind with
  | 0 => ([(k, v * a + b)], st)
  | 1 => (if (if a = 0 then v < b else if a = 1 then v = b else b < v) then [(k, v)] else [], st)
  | 2 => ([(rek (kv k * a + b), v)], st)
  | 3 => ((List.range a.toNatClampNeg).map fun j => (k, v + nI j), st)
  | 4 => if (st.map (fun x => x.2)).getD 0 + 1 = a then ([(k, (st.map (fun x => x.1)).getD 0 + v)], none) else ([], some ((st.map (fun x => x.1)).getD 0 + v, (st.map (fun x => x.2)).getD 0 + 1))
  | 5 => (if st.map (fun x => x.1) = some v then [] else [(k, v)], some (v, 0))
  | 6 => (match st with
    | none => ([(k, v)], some (v, 0))
    | some x => if x.1 < v then ([(k, v)], some (v, 0)) else ([], some x))
  | 8 => ([], some ((st.map (fun x => x.1)).getD 0 + v, (st.map (fun x => x.2)).getD 0 + 1))
  | _ => ([], st)
-- moves
def mvPut (E : Env) (D : Dy) (o i : Nat) (r : Rec) (l : List Rec) : Dy :=
  let c := lin o i (goal E D o i r.1)
  zsN (zsL (zsC D (upw (dC D) c (putR (eS E) (eC E) (dC D c) r))) (upw (dL D) (spt o i) l)) (upw (dN D) (spt o i) (dN D (spt o i) + if kyd (eK E (o + 1)) then 0 else 1))
def barC (E : Env) (D : Dy) (o i : Nat) : Nat → Ch := fun c => if lin o i 0 ≤ c ∧ c < lin o i (eP E (o + 1)) then putB (dC D c) else dC D c
def mvBar (E : Env) (D : Dy) (o i : Nat) : Dy := zsH (zsC D (barC E D o i)) (upw (dH D) (spt o i) false)
def mvSrc (E : Env) (D : Dy) (r : Fin 16 × Int32) : Dy :=
  zsO (zsY (zsX (zsL D (upw (dL D) 0 [(r.1, r.2, eT E)])) (upw (dX D) 0 (dX D 0 + 1))) (upw (dY D) 0 (dY D 0 + 1))) (dO D + 1)
def mvLat (E : Env) (D : Dy) (b : Nat) : Dy := zsU (zsM (zsT D (upw (dT D) (eT E - b) (dT D (eT E - b) + 1))) (dM D + 1)) (dU D + nI (eT E - b))
def mvTR (E : Env) (D : Dy) (o i f : Nat) (r : Rec) (l : List Rec) (q : List Bt) : Dy :=
  let c := lin (o - 1) f i
  let pr := proc (eK E o) (eA E o) (eB E o) (dK D o r.1) r.1 r.2.1
  let D1 := zsP (zsC D (upw (dC D) c (if l = [] then q else some l :: q, (dC D c).2))) (upw (dP D) (spt o i) ((f + 1) % eP E (o - 1)))
  let D2 := zsY (zsX (zsL (zsK D1 (upw (dK D1) o (fun k => if k = r.1 then pr.2 else dK D1 o k))) (upw (dL D1) (spt o i) (pr.1.map fun x => (x.1, x.2, r.2.2)))) (upw (dX D1) o (dX D1 o + 1))) (upw (dY D1) o (dY D1 o + nI pr.1.length))
  if o = eN E + 1 then mvLat E D2 r.2.2 else D2
def saves (E : Env) (D : Dy) (o i : Nat) : Dy :=
  zsD (zsR (zsG D (upw (dG D) o (fun k => if home (eP E o) k = i then dK D o k else dG D o k))) (upw (dR D) (spt o i) (dN D (spt o i)))) (upw (dD D) (spt o i) true)
def mvTB (E : Env) (D : Dy) (o i f : Nat) (q : List Bt) : Dy :=
  let c := lin (o - 1) f i
  let D1 := zsP (zsC D (upw (dC D) c (q, (dC D c).2))) (upw (dP D) (spt o i) ((f + 1) % eP E (o - 1)))
  let m := dS D (spt o i) ||| 1 <<< f
  if m = 2 ^ eP E (o - 1) - 1 then
    let D2 := saves E (zsS D1 (upw (dS D1) (spt o i) 0)) o i
    if o = eN E + 1 then zsW D2 (dW D2 + 1) else zsH D2 (upw (dH D2) (spt o i) true)
  else zsS D1 (upw (dS D1) (spt o i) m)
-- the working of an instance
def sendL (E : Env) (o i : Nat) : List Rec → Dy → Bool × Dy
  | [], D => (true, D)
  | r :: l, D => if tkR (eS E) (eC E) (dC D (lin o i (goal E D o i r.1))) then sendL E o i l (mvPut E D o i r l) else (false, D)
def refus (E : Env) (D : Dy) (o i : Nat) : Option Nat := (List.range (eP E (o + 1))).find? fun j => !tkB (eC E) (dC D (lin o i j))
def sendB (E : Env) (D : Dy) (o i : Nat) : Bool × Dy :=
  if dH D (spt o i) then (match refus E D o i with
    | some _ => (false, D)
    | none => (true, mvBar E D o i)) else (true, D)
def sends (E : Env) (D : Dy) (o i : Nat) : Bool × Dy :=
  let r := sendL E o i (dL D (spt o i)) D
  if r.1 then sendB E r.2 o i else r
def ready (E : Env) (D : Dy) (o i : Nat) : Option Nat :=
  ((List.range (eP E (o - 1))).map fun k => (dP D (spt o i) + k) % eP E (o - 1)).find? fun f => !(dS D (spt o i)).testBit f && !(dC D (lin (o - 1) f i)).1.isEmpty
def takes (E : Env) (D : Dy) (o i : Nat) : Bool × Dy :=
  if o = 0 then (match (eI E)[dO D]? with
    | none => (false, D)
    | some r => (true, mvSrc E D r))
  else match ready E D o i with
    | none => (false, D)
    | some f => (match (dC D (lin (o - 1) f i)).1 with
      | none :: q => (true, mvTB E D o i f q)
      | some (r :: l) :: q => (true, mvTR E D o i f r l q)
      | _ => (false, D))
def blk (D : Dy) (o : Nat) : Dy := zsB D (upw (dB D) o (dB D o + 1))
def idl (D : Dy) (o : Nat) : Dy := zsI D (upw (dI D) o (dI D o + 1))
def works (E : Env) (o i : Nat) : Nat → Dy → Dy
  | 0, D => let r := sends E D o i; if r.1 then r.2 else blk r.2 o
  | b + 1, D => let r := sends E D o i
    if r.1 then (let t := takes E r.2 o i; if t.1 then works E o i b t.2 else idl t.2 o) else blk r.2 o
/-- instances 0 to m - 1 of an operator, ascending -/
def workO (E : Env) (o : Nat) : Nat → Dy → Dy
  | 0, D => D
  | m + 1, D => works E o m (eR E) (workO E o m D)
/-- operators m - 1 down to 0 -/
def workA (E : Env) : Nat → Dy → Dy
  | 0, D => D
  | m + 1, D => workA E m (workO E m (eP E m) D)
def growA (E : Env) (D : Dy) : Dy := zsC D fun c => grow (eG E) (eC E) (dC D c)
def tickD (E : Env) (D : Dy) : Dy := workA E (eN E + 2) (growA E D)
-- counting
def sumN : Nat → (Nat → Nat) → Nat
  | 0, _ => 0
  | n + 1, f => sumN n f + f n
def nbar : List Bt → Nat
  | [] => 0
  | none :: q => nbar q + 1
  | some _ :: q => nbar q
def nrec : List Bt → Nat
  | [] => 0
  | none :: q => nrec q
  | some l :: q => l.length + nrec q
def csz (h : Ch) : Nat := nrec h.1 + h.2.1.length
def pop3 (m : Nat) : Nat := m % 2 + m / 2 % 2 + m / 4 % 2
def bit (m f : Nat) : Nat := m / 2 ^ f % 2
