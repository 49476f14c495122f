/-! THE SYSTEM AS A PURE MACHINE: small words -/
def upd {α : Type} (f : Nat → α) (k : Nat) (v : α) : Nat → α := fun a => if a = k then v else f a
theorem upd_eq {α : Type} {f : Nat → α} {k : Nat} {v : α} : upd f k v k = v := if_pos rfl
theorem upd_ne {α : Type} {f : Nat → α} {k a : Nat} {v : α} (h : a ≠ k) : upd f k v a = f a := if_neg h
