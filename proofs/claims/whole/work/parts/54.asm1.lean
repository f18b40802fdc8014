/-! ===== PURE: assembly() alike ===== -/
theorem newA_rd (σ : SS) (r i k : Nat) : (newA σ).1 r i k = if (22 ≤ r ∧ r < 25) ∧ i = σ.2.2 then 0 else σ.1 r i k := rfl
theorem q_assembly {σ : SS} {n : Nat} {m : Nat → Nat} (h : IT σ n m) : ∃ r σ1 σ2, f_X7_assembly σ = some (r, σ1) ∧ f_X8_assembly σ1 = some (r, σ2) ∧ (∃ n m, IT σ2 n m) ∧ σ2.2.1 = σ.2.1 ∧ ∀ r i k, ¬ ((22 ≤ r ∧ r < 25) ∨ (r = 12 ∧ k = 1) ∨ r = 82 ∨ (r = 25 ∧ k = 41)) → σ2.1 r i k = σ.1 r i k := by
  have hn := h.1.1
  by_cases e : n = 12
  · subst e
    exact ⟨-3, σ, σ, p_X7_assembly_full h.1, p_X8_assembly_full h.1, ⟨_, _, h⟩, rfl, fun _ _ _ _ => rfl⟩
  · have hl : n < 12 := by omega
    have e41 : (up (newA σ) 12 0 1 (nI (n + 1))).1 25 0 41 = nI n := h.1.2.2.1
    refine ⟨nI n, _, _, p_X7_assembly_ok h.1 hl, p_X8_assembly_ok e41 hl, ⟨n + 1, fun a => if a = n then 0 else m a, ⟨by omega, rfl, rfl, ?_⟩, fun a ha => ?_⟩, rfl, fun r i k hp => ?_⟩
    · show σ.2.2 + 1 = n + 1
      rw [h.1.2.2.2]
    · have hcap := h.1.2.2.2
      by_cases ea : a = n
      · subst ea
        simp only [if_true]
        refine ⟨by omega, ?_, ?_, fun i hi => absurd hi (by omega)⟩
        · simp (config := { decide := true }) only [up_rd, newA_rd, false_and, if_false, hcap, and_self, if_true]
        · simp (config := { decide := true }) only [up_rd, false_and, if_false, true_and, and_self, if_true]
      · simp only [if_neg ea]
        obtain ⟨h1, h2, h3, h4⟩ := h.2 a (by omega)
        have ec : ¬ a = σ.2.2 := by rw [hcap]; exact ea
        refine ⟨h1, ?_, ?_, fun i hi => ?_⟩
        · rw [← h2]
          simp (config := { decide := true }) only [up_rd, newA_rd, false_and, if_false, ec, and_false]
        · rw [← h3]
          simp (config := { decide := true }) only [up_rd, newA_rd, false_and, if_false, ea, and_false, true_and]
        · obtain ⟨b1, b2⟩ := h4 i hi
          refine ⟨?_, ?_⟩
          · simp (config := { decide := true }) only [up_rd, newA_rd, false_and, if_false, ec, and_false]
            exact b1
          · simp (config := { decide := true }) only [up_rd, newA_rd, false_and, if_false, ec, and_false]
            exact b2
    · rw [up_rd, if_neg (fun z => hp (Or.inr (Or.inr (Or.inr ⟨z.1, z.2.2⟩)))), up_rd, if_neg (fun z => hp (Or.inr (Or.inr (Or.inl z.1)))), up_rd, if_neg (fun z => hp (Or.inr (Or.inl ⟨z.1, z.2.2⟩))), newA_rd, if_neg (fun z => hp (Or.inl z.1))]
