/-! ===== PURE: pack() alike ===== -/
theorem pack_RU {σ τ : SS} {n : Nat} {fa fb fj fp : Nat → Nat} {on on' : Nat → Bool} (h : RU σ n fa fb fj fp on) (hf : ∀ r i k, ¬ (r = 7 ∧ k = 5) → r ≠ 80 → τ.1 r i k = σ.1 r i k) (hb : ∀ q, q < 8 → τ.1 80 0 q = (if on' q then 1 else 0) ∧ bitAt (τ.1 7 0 5) q = (if on' q then 1 else 0)) (h0 : on' 0 = true) : RU τ n fa fb fj fp on' := by
  obtain ⟨h1, ⟨h2, h3⟩, h4, -, ⟨z1, z2, z3, -⟩⟩ := h
  refine ⟨h1, ⟨by rw [hf 7 0 4 (by omega) (by omega)]; exact h2, by rw [hf 25 0 35 (by omega) (by omega)]; exact h3⟩, fun j hj => ?_, hb, ⟨z1, z2, z3, h0⟩⟩
  obtain ⟨g1, ⟨b1, b2, b3, b4⟩, ⟨c1, c2, c3, c4⟩⟩ := h4 j hj
  refine ⟨g1, ⟨?_, ?_, ?_, ?_⟩, ⟨?_, ?_, ?_, ?_⟩⟩ <;> (rw [hf _ _ _ (by omega) (by omega)]; assumption)
theorem q_pack {σ : SS} {n : Nat} {fa fb fj fp : Nat → Nat} {on : Nat → Bool} (h : RU σ n fa fb fj fp on) (hP : RP σ) (a b : Int32) (hb : b = 0 ∨ b = 1) : ∃ r σ1 σ2, f_X7_pack a b σ = some (r, σ1) ∧ f_X8_pack a b σ1 = some (r, σ2) ∧ (∃ n fa fb fj fp on, RU σ2 n fa fb fj fp on) ∧ RP σ2 ∧ fr PR σ σ2 := by
  obtain ⟨P, hP1, hP2⟩ := hP
  unfold f_X7_pack f_X8_pack
  simp only [p_isFrom, c64_0, c64_7, p_in, cal_some, t01]
  by_cases h1 : (0 : Int32) ≤ a ∧ a ≤ 7
  · obtain ⟨q, -, hq, rfl⟩ := in_of (m := 0) (M := 7) (by decide) (by decide) h1
    have hq8 : q < 8 := by omega
    have hbit := (h.2.2.2.1 q hq8)
    have hbit2 : bitAt (nI P) q = (if on q then 1 else 0) := by rw [← hP2]; exact hbit.2
    have i8 : inr (nI q) 8 := nI_in hq8 (by decide)
    have c8 : ix (nI q) = q := nI_clamp (by omega)
    -- what the two sides do, the pack's new state being v
    have go : ∀ (v : Int32) (on' : Nat → Bool) (P' : Nat), (v = 0 ∨ v = 1) → P' < 256 → (∀ p, p < 8 → bitAt (nI P') p = (if on' p then 1 else 0)) → (∀ p, p < 8 → p ≠ q → on' p = on p) → (v = if on' q then 1 else 0) → on' 0 = true → ∀ τ : SS, τ = up σ 7 0 5 (nI P') →
        f_X8_pack_22 (nI q) v τ = some (if on q then 1 else 0, up τ 80 0 q v) ∧ (∃ n fa fb fj fp on, RU (up τ 80 0 q v) n fa fb fj fp on) ∧ RP (up τ 80 0 q v) ∧ fr PR σ (up τ 80 0 q v) := by
      intro v on' P' hv hP' hbits hother hvq h0 τ hτ
      subst hτ
      refine ⟨?_, ⟨n, fa, fb, fj, fp, on', pack_RU h (fun r i k h2 h3 => ?_) (fun p hp => ?_) h0⟩, ⟨P', hP', rfl⟩, fr.up (fr.up (fr.rf _ _) (by unfold PR; omega)) (by unfold PR; omega)⟩
      · unfold f_X8_pack_22 f_X8_pack_36
        rw [chk_p i8, c8]
        show (if σ.1 80 0 q = 0 then _ else _) = _
        rw [hbit.1]
        cases hon : on q with
        | true =>
          rw [if_neg (by decide), chk_p hv, chk_p i8]
          rfl
        | false =>
          rw [if_pos (by rfl), chk_p hv, chk_p i8]
          rfl
      · rw [up_rd, if_neg (fun z => h3 z.1), up_rd, if_neg (fun z => h2 ⟨z.1, z.2.2⟩)]
      · refine ⟨?_, hbits p hp⟩
        by_cases e : p = q
        · subst e
          rw [up_rd, if_pos ⟨rfl, rfl, rfl⟩]
          exact hvq
        · rw [up_rd, if_neg (fun z => e z.2.2), up_rd, if_neg (fun z => by omega), hother p hp e]
          exact (h.2.2.2.1 p hp).1
    have sw0 : f_X7_pack_20 (nI q) 0 σ = some (if on q then 1 else 0, up σ 7 0 5 (nI (bOff P q))) := by
      unfold f_X7_pack_20 f_X5_switchPack
      simp only [lt_]
      rw [if_pos trivial, cal_some, hP2, (bits_off P hP1 q hq8).1]
      show some (bitAt (nI P) q, _) = _
      rw [hbit2]
    have sw1 : f_X7_pack_20 (nI q) 1 σ = some (if on q then 1 else 0, up σ 7 0 5 (nI (bOn P q))) := by
      unfold f_X7_pack_20 f_X5_switchPack
      simp only [lt_]
      rw [if_neg (show ¬ (1 : Int32) = 0 by decide), cal_some, hP2, (bits_on P hP1 q hq8).1]
      show some (bitAt (nI P) q, _) = _
      rw [hbit2]
    have bitP : ∀ p, p < 8 → bitAt (nI P) p = (if on p then 1 else 0) := fun p hp => by rw [← hP2]; exact (h.2.2.2.1 p hp).2
    have on0 := h.2.2.2.2.2.2.2
    simp only [if_pos h1]
    rcases hb with rfl | rfl
    · by_cases e0 : nI q = 0
      · simp only [if_pos e0, if_true]
        exact ⟨_, _, _, rfl, rfl, ⟨_, _, _, _, _, _, h⟩, ⟨P, hP1, hP2⟩, fr.rf _ _⟩
      · simp only [if_neg e0]
        have hq0 : q ≠ 0 := fun z => e0 (by rw [z]; rfl)
        obtain ⟨g1, g2⟩ := go 0 (fun p => if p = q then false else on p) (bOff P q) (Or.inl rfl) (bits_off P hP1 q hq8).2 (fun p hp => by
          rw [bits_off_at P hP1 q hq8 p hp]
          by_cases e : p = q
          · simp [e]
          · simp only [if_neg e]
            exact bitP p hp) (fun p hp e => by simp [e]) (by simp) (by simp [Ne.symm hq0, on0]) _ rfl
        exact ⟨_, _, _, sw0, g1, g2⟩
    · have e1 : ¬ (1 : Int32) = 0 := by decide
      obtain ⟨g1, g2⟩ := go 1 (fun p => if p = q then true else on p) (bOn P q) (Or.inr rfl) (bits_on P hP1 q hq8).2 (fun p hp => by
        rw [bits_on_at P hP1 q hq8 p hp]
        by_cases e : p = q
        · simp [e]
        · simp only [if_neg e]
          exact bitP p hp) (fun p hp e => by simp [e]) (by simp) (by
          by_cases e : 0 = q
          · simp [e]
          · simp [e, on0]) _ rfl
      by_cases e0 : nI q = 0
      · simp only [if_pos e0, if_neg e1]
        exact ⟨_, _, _, sw1, g1, g2⟩
      · simp only [if_neg e0]
        exact ⟨_, _, _, sw1, g1, g2⟩
  · simp only [if_neg h1]
    exact ⟨_, _, _, rfl, rfl, ⟨_, _, _, _, _, _, h⟩, ⟨P, hP1, hP2⟩, fr.rf _ _⟩
