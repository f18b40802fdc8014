/-! ===== PURE: the tie at the start ===== -/
def PI0 (r _i k : Nat) : Prop := (76 ≤ r ∧ r ≤ 80) ∨ (r = 25 ∧ k = 35)
theorem ini_loop : ∀ (s t fuel : Nat) (σ : SS), t + s = 8 → s < fuel → (∀ q, q < t → σ.1 80 0 q = 1) → ∃ σ', f_X8_init_541 fuel (nI t) σ = f_X8_init_560 σ' ∧ fri (fun r _ _ => r = 80) σ σ' ∧ ∀ q, q < 8 → σ'.1 80 0 q = 1 := by
  intro s
  induction s with
  | zero =>
    intro t fuel σ ht hf h
    obtain ⟨f, rfl⟩ : ∃ f, fuel = f + 1 := ⟨fuel - 1, by omega⟩
    have e : t = 8 := by omega
    rw [f_X8_init_541, if_pos (show (8 : Int32) ≤ nI t from nI_le (a := 8) (by omega) (by omega))]
    exact ⟨σ, rfl, fri.rf _ _, by rw [← e]; exact h⟩
  | succ s ih =>
    intro t fuel σ ht hf h
    obtain ⟨f, rfl⟩ : ∃ f, fuel = f + 1 := ⟨fuel - 1, by omega⟩
    obtain ⟨g1, g2⟩ := n8 (show t < 8 by omega)
    obtain ⟨σ', q1, q2, q3⟩ := ih (t + 1) f (up σ 80 0 t 1) (by omega) (by omega) (fun q hq => by
      by_cases e : q = t
      · rw [up_rd, if_pos ⟨rfl, rfl, e⟩]
      · rw [up_rd, if_neg (fun z => e z.2.2)]
        exact h q (by omega))
    refine ⟨σ', ?_, ((fri.rf _ _).up rfl).tr q2, q3⟩
    rw [f_X8_init_541, if_neg (show ¬ (8 : Int32) ≤ nI t from nI_ge (b := 8) (by omega) (by omega)), chk_p g1, g2, lt_eq, lt_eq, nI_1]
    exact q1
theorem ini_tb : ∀ k, k < 8 → (σI.1 40 0 k = iz (nz k) ∧ σI.1 41 0 k = iz (wz k) ∧ σI.1 42 0 k = nI (ar k)) ∧ σI.1 43 0 k = nI (pmw 0 k) ∧ σI.1 44 0 k = nI (pmw 1 k) ∧ σI.1 45 0 k = nI (pmw 2 k) := by decide +kernel
theorem ini_on : ∀ q, q < 8 → ((255 : Int32) >>> (nI q &&& 31)) &&& 1 = 1 := by decide +kernel
theorem ini_tie : ∃ σ1, f_X8_init_539 σI = some ((), σ1) ∧ TIE σ1 := by
  obtain ⟨τ, a1, a2, a3⟩ := ini_loop 8 0 FU σI rfl (by show 8 < 5000; omega) (fun q hq => by omega)
  rw [nI_0] at a1
  have e25 : τ.1 25 0 35 = nI 0 := by rw [a2.1 25 0 35 (by decide)]; decide +kernel
  have hok : okRule 9 9 1 0 := by unfold okRule; decide
  have f : agr PI0 σI (rule8 τ 0 9 9 1 0) := by
    intro r i k hp
    unfold PI0 at hp
    unfold rule8
    rw [up_rd, if_neg (by omega), up_rd, if_neg (by omega), up_rd, if_neg (by omega), up_rd, if_neg (by omega), up_rd, if_neg (by omega), a2.1 r i k (by omega)]
  have hs : (rule8 τ 0 9 9 1 0).2 = (0, 0) := by show τ.2 = _; rw [a2.2]; rfl
  refine ⟨rule8 τ 0 9 9 1 0, ?_, ⟨?_, ?_⟩, ⟨?_, ?_⟩, ?_⟩
  · rw [f_X8_init_539, a1, f_X8_init_560, p_X8_rule_ok hok (by decide) e25, cal_some]
  · intro k hk
    rw [f 40 0 k (by unfold PI0; omega), f 41 0 k (by unfold PI0; omega), f 42 0 k (by unfold PI0; omega)]
    exact (ini_tb k hk).1
  · intro k hk
    rw [f 43 0 k (by unfold PI0; omega), f 44 0 k (by unfold PI0; omega), f 45 0 k (by unfold PI0; omega)]
    exact (ini_tb k hk).2
  · refine ⟨1, fun _ => 9, fun _ => 9, fun _ => 1, fun _ => 0, fun _ => true, ⟨by decide, by decide⟩, ⟨?_, rfl⟩, fun j hj => ?_, fun q hq => ?_, rfl, rfl, rfl, rfl⟩
    · rw [f 7 0 4 (by unfold PI0; omega)]; decide +kernel
    · have e : j = 0 := by omega
      subst e
      refine ⟨⟨by decide, by decide, by decide, by decide, by decide⟩, ⟨?_, ?_, ?_, ?_⟩, rfl, rfl, rfl, rfl⟩
      · rw [f 8 0 0 (by unfold PI0; omega)]; decide +kernel
      · rw [f 9 0 0 (by unfold PI0; omega)]; decide +kernel
      · rw [f 10 0 0 (by unfold PI0; omega)]; decide +kernel
      · rw [f 11 0 0 (by unfold PI0; omega)]; decide +kernel
    · have e : σI.1 7 0 5 = 255 := by decide +kernel
      rw [f 7 0 5 (by unfold PI0; omega), e]
      refine ⟨?_, ini_on q hq⟩
      have u : (rule8 τ 0 9 9 1 0).1 80 0 q = τ.1 80 0 q := by
        unfold rule8
        rw [up_rd, if_neg (by omega), up_rd, if_neg (by omega), up_rd, if_neg (by omega), up_rd, if_neg (by omega), up_rd, if_neg (by omega)]
      rw [u, a3 q hq]
      rfl
  · refine ⟨255, by decide, ?_⟩
    rw [f 7 0 5 (by unfold PI0; omega)]; decide +kernel
  · refine ⟨0, fun _ _ => 0, fun _ => 0, fun _ => 0, fun _ => false, fun _ => 0, 0, fun _ => 0, fun _ _ => false, fun _ _ => 0, fun _ => 0, fun _ => 0, ⟨⟨⟨by decide, by omega, by rw [hs]; decide⟩, ⟨?_, ?_, ?_⟩, fun p hp => absurd hp (by omega)⟩, 0, 7, fun _ => 0, fun _ => 0, fun _ => 0, fun _ _ => 0, ⟨⟨by decide, by decide, ?_, ?_⟩, fun j hj => absurd hj (by omega)⟩, ⟨?_, fun j hj => absurd hj (by omega)⟩, rfl, fun j hj => absurd hj (by omega)⟩, ⟨⟨⟨by decide, ?_, ?_, ?_⟩, fun a ha => absurd ha (by omega)⟩, ⟨fun a ha => absurd ha (by omega), fun a b ha => absurd ha (by omega)⟩, fun a ha => absurd ha (by omega)⟩, fun a ha => absurd ha (by omega)⟩
    · rw [f 1 0 1 (by unfold PI0; omega)]; decide +kernel
    · rw [f 25 0 6 (by unfold PI0; omega)]; decide +kernel
    · rw [f 1 0 2 (by unfold PI0; omega)]; decide +kernel
    · rw [f 3 0 3 (by unfold PI0; omega)]; decide +kernel
    · rw [f 3 0 4 (by unfold PI0; omega)]; decide +kernel
    · rw [f 25 0 23 (by unfold PI0; omega)]; decide +kernel
    · rw [f 12 0 1 (by unfold PI0; omega)]; decide +kernel
    · rw [f 25 0 41 (by unfold PI0; omega)]; decide +kernel
    · rw [hs]
