/-! THE LAW, as a function of the script: law_f out of the loop -/
theorem law_f (X : Nat × (Nat → Int32)) (hX : X.1 ≤ 2560) : ∃ M1, f_w_law ((fun _ _ => 0, fun _ _ => 0, fun _ _ => none, fun _ => 0, fun _ => 0, 0, 0, X) : Mem) = some (1, M1) ∧ mn M1 ≤ 600000 ∧ ms M1 ≤ 7302250 := law_good hX
theorem law_ev (X : Nat × (Nat → Int32)) (hX : X.1 ≤ 2560) : ∃ n M1, ev n 40 230 0 (entL 4 [.retAddr 0]) [] ((fun _ _ => 0, fun _ _ => 0, fun _ _ => none, fun _ => 0, fun _ => 0, 0, 0, X) : Mem) = some (some (.int 1), M1) ∧ mn M1 ≤ 600000 ∧ ms M1 ≤ 7302250 := by
  obtain ⟨M1, h, h1, h2⟩ := law_f X hX
  obtain ⟨n, hn⟩ := e_w_law (d := 40) (by omega) _ _ h
  exact ⟨n, M1, hn, h1, h2⟩
