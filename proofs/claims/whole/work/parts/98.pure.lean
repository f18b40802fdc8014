/-- the class's functions answer as the model's, whatever the script -/
theorem pure_all : ∀ (L : Nat), L ≤ 2560 → ∀ xs : Nat → Int32, ∃ σ1 σ2 : SS, f_X8_init_539 σI = some ((), σ1) ∧ f_L_law_15 L xs σ1 = some (1, σ2) := by
  intro L hL xs
  obtain ⟨σ1, a, b⟩ := ini_tie
  obtain ⟨σ2, c⟩ := law_loop hL xs FU 0 σ1 b (by omega) (by show L < 0 + 5 * 5000; omega)
  rw [nI_0] at c
  exact ⟨σ1, σ2, a, by rw [f_L_law_15]; exact c⟩
