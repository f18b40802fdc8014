/-! ===== PURE: assembly(), which assemblies there are ===== -/
/-- how many assemblies there are, on both sides -/
def AN (σ : SS) (n : Nat) : Prop := n ≤ 12 ∧ σ.1 12 0 1 = nI n ∧ σ.1 25 0 41 = nI n ∧ σ.2.2 = n
theorem n12 {n : Nat} (h : n < 12) : inr (nI n) 12 ∧ ix (nI n) = n ∧ nI n < (12 : Int32) ∧ ¬ nI n = (12 : Int32) := by
  refine ⟨nI_in h (by decide), nI_clamp (by omega), ?_, ?_⟩
  · exact nI_lt (b := 12) h (by decide)
  · intro e
    have := (nI_eq (a := n) (b := 12) (by omega) (by decide)).mp e
    omega
theorem p_X7_assembly_full {σ : SS} (h : AN σ 12) : f_X7_assembly σ = some (-3, σ) := by
  unfold f_X7_assembly f_X0_isFull
  rw [h.2.1, if_neg (by decide), cal_some, if_neg (by decide)]
theorem p_X8_assembly_full {σ : SS} (h : AN σ 12) : f_X8_assembly σ = some (-3, σ) := by
  unfold f_X8_assembly
  rw [h.2.2.1, if_pos (by decide)]
theorem p_X7_assembly_ok {σ : SS} {n : Nat} (h : AN σ n) (hn : n < 12) : f_X7_assembly σ = some (nI n, up (newA σ) 12 0 1 (nI (n + 1))) := by
  obtain ⟨g1, g2, g3, g4⟩ := n12 hn
  have e : (newA σ).1 12 0 1 = nI n := h.2.1
  unfold f_X7_assembly f_X0_isFull
  rw [h.2.1, if_pos g3, cal_some, if_pos rfl]
  unfold f_X0_add
  rw [h.2.1, chk_p ⟨by rw [g2]; exact h.2.2.2.symm, g1⟩]
  simp only [lt_, e, cal_some, nI_1]
theorem p_X8_assembly_ok {σ : SS} {n : Nat} (hs : σ.1 25 0 41 = nI n) (hn : n < 12) : f_X8_assembly σ = some (nI n, up (up σ 82 0 n 0) 25 0 41 (nI (n + 1))) := by
  obtain ⟨g1, g2, g3, g4⟩ := n12 hn
  unfold f_X8_assembly
  rw [hs, if_neg g4, chk_p g1]
  simp (config := { decide := true }) only [lt_, up_rd, false_and, if_false, if_true, hs, g2, nI_1, nI_pred]
/-- has, isAssembly -/
theorem p_has {σ : SS} {n : Nat} (h : AN σ n) (a : Int32) : f_X0_has a σ = some (if (0 : Int32) ≤ a ∧ a ≤ nI n - 1 then 1 else 0, σ) := by
  unfold f_X0_has
  rw [h.2.1, p_isFrom, cal_some, chk_p]
  by_cases e : (0 : Int32) ≤ a ∧ a ≤ nI n - 1
  · rw [if_pos e]; exact Or.inr rfl
  · rw [if_neg e]; exact Or.inl rfl
theorem p_isAssembly {σ : SS} {n : Nat} (h : AN σ n) (a : Int32) : f_X8_isAssembly a σ = some (if (0 : Int32) ≤ a ∧ a ≤ nI n - 1 then 1 else 0, σ) := by
  unfold f_X8_isAssembly
  rw [h.2.2.1, c64_0, p_in, cal_some, chk_p]
  by_cases e : (0 : Int32) ≤ a ∧ a ≤ nI n - 1
  · rw [if_pos e]; exact Or.inr rfl
  · rw [if_neg e]; exact Or.inl rfl
