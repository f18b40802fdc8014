/-- WHAT IS LEFT: the class's functions answer as the model's -/
theorem pure_all : ∀ (L : Nat), L ≤ 2560 → ∀ xs : Nat → Int32, ∃ σ1 σ2 : SS, f_X8_init_539 σI = some ((), σ1) ∧ f_L_law_15 L xs σ1 = some (1, σ2) := by
  sorry
