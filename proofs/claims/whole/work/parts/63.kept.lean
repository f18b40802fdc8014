/-! ===== PURE: the points that are kept of a cut ===== -/
def Kp (T : Nat → Int) (w : Nat) (C x y : Int) : Prop := (∃ i, i < 8 ∧ x = vx T i ∧ y = vy T i ∧ mz w x y ≤ C) ∨ (∃ i, i < 8 ∧ mz i x y = T i ∧ mz w x y = C ∧ ((mz w (vx T i) (vy T i) < C ∧ C < mz w (vx T (nxt i)) (vy T (nxt i))) ∨ (C < mz w (vx T i) (vy T i) ∧ mz w (vx T (nxt i)) (vy T (nxt i)) < C)))
theorem edge_in {T : Nat → Int} (a : ∀ k, k < 8 → 0 ≤ ld T k) {x y : Int} : ∀ i, i < 8 → mz i x y = T i → az i (vx T i) (vy T i) ≤ az i x y → az i x y ≤ az i (vx T (nxt i)) (vy T (nxt i)) → ∀ k, k < 8 → mz k x y ≤ T k := by
  have a := of8 a
  simp only [ld] at a
  obtain ⟨a0, a1, a2, a3, a4, a5, a6, a7⟩ := a
  apply all8 <;> simp only [mz, vx, vy, nxt, az, nz, wz] <;> intro g1 g2 g3 <;> apply all8 <;> simp only [mz] <;> omega
theorem cross_az {T : Nat → Int} {C x y : Int} : ∀ w, w < 8 → ∀ i, i < 8 → mz i x y = T i → mz w x y = C → ((mz w (vx T i) (vy T i) < C ∧ C < mz w (vx T (nxt i)) (vy T (nxt i))) ∨ (C < mz w (vx T i) (vy T i) ∧ mz w (vx T (nxt i)) (vy T (nxt i)) < C)) → 0 ≤ ld T i → az i (vx T i) (vy T i) ≤ az i x y ∧ az i x y ≤ az i (vx T (nxt i)) (vy T (nxt i)) := by
  apply all8 <;> apply all8 <;> simp only [mz, vx, vy, nxt, az, nz, wz, ld] <;> omega
theorem kp_in {e T : Nat → Int} (h : Fit e T) {w : Nat} (hw : w < 8) {C x y : Int} (hk : Kp T w C x y) : (∀ k, k < 8 → mz k x y ≤ T k) ∧ mz w x y ≤ C := by
  rcases hk with ⟨i, hi, rfl, rfl, hm⟩ | ⟨i, hi, h1, h2, h3⟩
  · exact ⟨fit_v h i hi, hm⟩
  · have q := cross_az w hw i hi h1 h2 h3 (h.1 i hi)
    exact ⟨edge_in h.1 i hi h1 q.1 q.2, by omega⟩
theorem cut_le {e T : Nat → Int} (h : Fit e T) {C x y : Int} (hC : C % 2 = 0) (hl : ∀ k, k < 8 → mz k x y ≤ T k) : ∀ w, w < 8 → mz w x y ≤ C → ∀ j, j < 8 → mz j x y ≤ cutT T w C j := by
  obtain ⟨v2, v3, v6, v7⟩ := fit_even h
  clear h
  have l := of8 hl
  clear hl
  simp only [mz] at l
  obtain ⟨l0, l1, l2, l3, l4, l5, l6, l7⟩ := l
  apply all8 <;> intro g <;> simp only [mz] at g <;> apply all8 <;> simp only [mz, cutT] <;> omega
theorem cut_att0 {e T : Nat → Int} (h : Fit e T) {C : Int} (hC : C % 2 = 0) (h1 : -T 4 < C) (h2 : C < T 0) : ∀ j, j < 8 → ∃ x y, Kp T 0 C x y ∧ mz j x y = cutT T 0 C j := by
  obtain ⟨v2, v3, v6, v7⟩ := fit_even h
  obtain ⟨a, ww, -, -⟩ := h
  have a := of8 a
  simp only [ld] at a
  obtain ⟨a0, a1, a2, a3, a4, a5, a6, a7⟩ := a
  apply all8
  · by_cases q1 : mz 0 (vx T 1) (vy T 1) ≤ C <;> simp only [mz, vx, vy] at q1
    · by_cases q3 : mz 0 (vx T 1) (vy T 1) = C <;> simp only [mz, vx, vy] at q3
      · exact ⟨_, _, Or.inl ⟨1, by decide, rfl, rfl, by simp only [mz, vx, vy] <;> omega⟩, by simp only [mz, vx, vy, cutT] <;> omega⟩
      · exact ⟨C, T 2 - C, Or.inr ⟨2, by decide, by simp only [mz] <;> omega, by simp only [mz] <;> omega, by simp only [mz, vx, vy, nxt] <;> omega⟩, by simp only [mz, cutT] <;> omega⟩
    · by_cases q2 : mz 0 (vx T 7) (vy T 7) ≤ C <;> simp only [mz, vx, vy] at q2
      · by_cases q3 : mz 0 (vx T 7) (vy T 7) = C <;> simp only [mz, vx, vy] at q3
        · exact ⟨_, _, Or.inl ⟨7, by decide, rfl, rfl, by simp only [mz, vx, vy] <;> omega⟩, by simp only [mz, vx, vy, cutT] <;> omega⟩
        · exact ⟨C, T 1, Or.inr ⟨1, by decide, by simp only [mz] <;> omega, by simp only [mz] <;> omega, by simp only [mz, vx, vy, nxt] <;> omega⟩, by simp only [mz, cutT] <;> omega⟩
      · exact ⟨C, T 7 + C, Or.inr ⟨7, by decide, by simp only [mz] <;> omega, by simp only [mz] <;> omega, by simp only [mz, vx, vy, nxt] <;> omega⟩, by simp only [mz, cutT] <;> omega⟩
  · by_cases q1 : mz 0 (vx T 7) (vy T 7) ≤ C <;> simp only [mz, vx, vy] at q1
    · exact ⟨_, _, Or.inl ⟨7, by decide, rfl, rfl, by simp only [mz, vx, vy] <;> omega⟩, by simp only [mz, vx, vy, cutT] <;> omega⟩
    · exact ⟨C, T 7 + C, Or.inr ⟨7, by decide, by simp only [mz] <;> omega, by simp only [mz] <;> omega, by simp only [mz, vx, vy, nxt] <;> omega⟩, by simp only [mz, cutT] <;> omega⟩
  · by_cases q1 : mz 0 (vx T 1) (vy T 1) ≤ C <;> simp only [mz, vx, vy] at q1
    · exact ⟨_, _, Or.inl ⟨1, by decide, rfl, rfl, by simp only [mz, vx, vy] <;> omega⟩, by simp only [mz, vx, vy, cutT] <;> omega⟩
    · by_cases q2 : mz 0 (vx T 7) (vy T 7) ≤ C <;> simp only [mz, vx, vy] at q2
      · by_cases q3 : mz 0 (vx T 7) (vy T 7) = C <;> simp only [mz, vx, vy] at q3
        · exact ⟨_, _, Or.inl ⟨7, by decide, rfl, rfl, by simp only [mz, vx, vy] <;> omega⟩, by simp only [mz, vx, vy, cutT] <;> omega⟩
        · exact ⟨C, T 1, Or.inr ⟨1, by decide, by simp only [mz] <;> omega, by simp only [mz] <;> omega, by simp only [mz, vx, vy, nxt] <;> omega⟩, by simp only [mz, cutT] <;> omega⟩
      · exact ⟨C, T 7 + C, Or.inr ⟨7, by decide, by simp only [mz] <;> omega, by simp only [mz] <;> omega, by simp only [mz, vx, vy, nxt] <;> omega⟩, by simp only [mz, cutT] <;> omega⟩
  · by_cases q1 : mz 0 (vx T 3) (vy T 3) ≤ C <;> simp only [mz, vx, vy] at q1
    · exact ⟨_, _, Or.inl ⟨3, by decide, rfl, rfl, by simp only [mz, vx, vy] <;> omega⟩, by simp only [mz, vx, vy, cutT] <;> omega⟩
    · by_cases q2 : mz 0 (vx T 5) (vy T 5) ≤ C <;> simp only [mz, vx, vy] at q2
      · by_cases q3 : mz 0 (vx T 5) (vy T 5) = C <;> simp only [mz, vx, vy] at q3
        · exact ⟨_, _, Or.inl ⟨5, by decide, rfl, rfl, by simp only [mz, vx, vy] <;> omega⟩, by simp only [mz, vx, vy, cutT] <;> omega⟩
        · exact ⟨C, -T 5, Or.inr ⟨5, by decide, by simp only [mz] <;> omega, by simp only [mz] <;> omega, by simp only [mz, vx, vy, nxt] <;> omega⟩, by simp only [mz, cutT] <;> omega⟩
      · exact ⟨C, -T 6 - C, Or.inr ⟨6, by decide, by simp only [mz] <;> omega, by simp only [mz] <;> omega, by simp only [mz, vx, vy, nxt] <;> omega⟩, by simp only [mz, cutT] <;> omega⟩
  · exact ⟨_, _, Or.inl ⟨4, by decide, rfl, rfl, by simp only [mz, vx, vy] <;> omega⟩, by simp only [mz, vx, vy, cutT] <;> omega⟩
  · by_cases q1 : mz 0 (vx T 5) (vy T 5) ≤ C <;> simp only [mz, vx, vy] at q1
    · exact ⟨_, _, Or.inl ⟨5, by decide, rfl, rfl, by simp only [mz, vx, vy] <;> omega⟩, by simp only [mz, vx, vy, cutT] <;> omega⟩
    · exact ⟨C, -T 6 - C, Or.inr ⟨6, by decide, by simp only [mz] <;> omega, by simp only [mz] <;> omega, by simp only [mz, vx, vy, nxt] <;> omega⟩, by simp only [mz, cutT] <;> omega⟩
  · exact ⟨_, _, Or.inl ⟨6, by decide, rfl, rfl, by simp only [mz, vx, vy] <;> omega⟩, by simp only [mz, vx, vy, cutT] <;> omega⟩
  · exact ⟨_, _, Or.inl ⟨4, by decide, rfl, rfl, by simp only [mz, vx, vy] <;> omega⟩, by simp only [mz, vx, vy, cutT] <;> omega⟩
theorem cut_att1 {e T : Nat → Int} (h : Fit e T) {C : Int} (hC : C % 2 = 0) (h1 : -T 5 < C) (h2 : C < T 1) : ∀ j, j < 8 → ∃ x y, Kp T 1 C x y ∧ mz j x y = cutT T 1 C j := by
  obtain ⟨v2, v3, v6, v7⟩ := fit_even h
  obtain ⟨a, ww, -, -⟩ := h
  have a := of8 a
  simp only [ld] at a
  obtain ⟨a0, a1, a2, a3, a4, a5, a6, a7⟩ := a
  apply all8
  · by_cases q1 : mz 1 (vx T 0) (vy T 0) ≤ C <;> simp only [mz, vx, vy] at q1
    · exact ⟨_, _, Or.inl ⟨0, by decide, rfl, rfl, by simp only [mz, vx, vy] <;> omega⟩, by simp only [mz, vx, vy, cutT] <;> omega⟩
    · exact ⟨T 3 + C, C, Or.inr ⟨3, by decide, by simp only [mz] <;> omega, by simp only [mz] <;> omega, by simp only [mz, vx, vy, nxt] <;> omega⟩, by simp only [mz, cutT] <;> omega⟩
  · by_cases q1 : mz 1 (vx T 4) (vy T 4) ≤ C <;> simp only [mz, vx, vy] at q1
    · by_cases q3 : mz 1 (vx T 4) (vy T 4) = C <;> simp only [mz, vx, vy] at q3
      · exact ⟨_, _, Or.inl ⟨4, by decide, rfl, rfl, by simp only [mz, vx, vy] <;> omega⟩, by simp only [mz, vx, vy, cutT] <;> omega⟩
      · exact ⟨-T 7 + C, C, Or.inr ⟨7, by decide, by simp only [mz] <;> omega, by simp only [mz] <;> omega, by simp only [mz, vx, vy, nxt] <;> omega⟩, by simp only [mz, cutT] <;> omega⟩
    · by_cases q2 : mz 1 (vx T 6) (vy T 6) ≤ C <;> simp only [mz, vx, vy] at q2
      · by_cases q3 : mz 1 (vx T 6) (vy T 6) = C <;> simp only [mz, vx, vy] at q3
        · exact ⟨_, _, Or.inl ⟨6, by decide, rfl, rfl, by simp only [mz, vx, vy] <;> omega⟩, by simp only [mz, vx, vy, cutT] <;> omega⟩
        · exact ⟨-T 4, C, Or.inr ⟨4, by decide, by simp only [mz] <;> omega, by simp only [mz] <;> omega, by simp only [mz, vx, vy, nxt] <;> omega⟩, by simp only [mz, cutT] <;> omega⟩
      · exact ⟨-T 6 - C, C, Or.inr ⟨6, by decide, by simp only [mz] <;> omega, by simp only [mz] <;> omega, by simp only [mz, vx, vy, nxt] <;> omega⟩, by simp only [mz, cutT] <;> omega⟩
  · by_cases q1 : mz 1 (vx T 2) (vy T 2) ≤ C <;> simp only [mz, vx, vy] at q1
    · exact ⟨_, _, Or.inl ⟨2, by decide, rfl, rfl, by simp only [mz, vx, vy] <;> omega⟩, by simp only [mz, vx, vy, cutT] <;> omega⟩
    · by_cases q2 : mz 1 (vx T 0) (vy T 0) ≤ C <;> simp only [mz, vx, vy] at q2
      · by_cases q3 : mz 1 (vx T 0) (vy T 0) = C <;> simp only [mz, vx, vy] at q3
        · exact ⟨_, _, Or.inl ⟨0, by decide, rfl, rfl, by simp only [mz, vx, vy] <;> omega⟩, by simp only [mz, vx, vy, cutT] <;> omega⟩
        · exact ⟨T 0, C, Or.inr ⟨0, by decide, by simp only [mz] <;> omega, by simp only [mz] <;> omega, by simp only [mz, vx, vy, nxt] <;> omega⟩, by simp only [mz, cutT] <;> omega⟩
      · exact ⟨T 3 + C, C, Or.inr ⟨3, by decide, by simp only [mz] <;> omega, by simp only [mz] <;> omega, by simp only [mz, vx, vy, nxt] <;> omega⟩, by simp only [mz, cutT] <;> omega⟩
  · exact ⟨_, _, Or.inl ⟨3, by decide, rfl, rfl, by simp only [mz, vx, vy] <;> omega⟩, by simp only [mz, vx, vy, cutT] <;> omega⟩
  · by_cases q1 : mz 1 (vx T 6) (vy T 6) ≤ C <;> simp only [mz, vx, vy] at q1
    · exact ⟨_, _, Or.inl ⟨6, by decide, rfl, rfl, by simp only [mz, vx, vy] <;> omega⟩, by simp only [mz, vx, vy, cutT] <;> omega⟩
    · exact ⟨-T 6 - C, C, Or.inr ⟨6, by decide, by simp only [mz] <;> omega, by simp only [mz] <;> omega, by simp only [mz, vx, vy, nxt] <;> omega⟩, by simp only [mz, cutT] <;> omega⟩
  · exact ⟨_, _, Or.inl ⟨5, by decide, rfl, rfl, by simp only [mz, vx, vy] <;> omega⟩, by simp only [mz, vx, vy, cutT] <;> omega⟩
  · exact ⟨_, _, Or.inl ⟨5, by decide, rfl, rfl, by simp only [mz, vx, vy] <;> omega⟩, by simp only [mz, vx, vy, cutT] <;> omega⟩
  · by_cases q1 : mz 1 (vx T 4) (vy T 4) ≤ C <;> simp only [mz, vx, vy] at q1
    · exact ⟨_, _, Or.inl ⟨4, by decide, rfl, rfl, by simp only [mz, vx, vy] <;> omega⟩, by simp only [mz, vx, vy, cutT] <;> omega⟩
    · by_cases q2 : mz 1 (vx T 6) (vy T 6) ≤ C <;> simp only [mz, vx, vy] at q2
      · by_cases q3 : mz 1 (vx T 6) (vy T 6) = C <;> simp only [mz, vx, vy] at q3
        · exact ⟨_, _, Or.inl ⟨6, by decide, rfl, rfl, by simp only [mz, vx, vy] <;> omega⟩, by simp only [mz, vx, vy, cutT] <;> omega⟩
        · exact ⟨-T 4, C, Or.inr ⟨4, by decide, by simp only [mz] <;> omega, by simp only [mz] <;> omega, by simp only [mz, vx, vy, nxt] <;> omega⟩, by simp only [mz, cutT] <;> omega⟩
      · exact ⟨-T 6 - C, C, Or.inr ⟨6, by decide, by simp only [mz] <;> omega, by simp only [mz] <;> omega, by simp only [mz, vx, vy, nxt] <;> omega⟩, by simp only [mz, cutT] <;> omega⟩
theorem cut_att2 {e T : Nat → Int} (h : Fit e T) {C : Int} (hC : C % 2 = 0) (h1 : -T 6 < C) (h2 : C < T 2) : ∀ j, j < 8 → ∃ x y, Kp T 2 C x y ∧ mz j x y = cutT T 2 C j := by
  obtain ⟨v2, v3, v6, v7⟩ := fit_even h
  obtain ⟨a, ww, -, -⟩ := h
  have a := of8 a
  simp only [ld] at a
  obtain ⟨a0, a1, a2, a3, a4, a5, a6, a7⟩ := a
  apply all8
  · by_cases q1 : mz 2 (vx T 0) (vy T 0) ≤ C <;> simp only [mz, vx, vy] at q1
    · exact ⟨_, _, Or.inl ⟨0, by decide, rfl, rfl, by simp only [mz, vx, vy] <;> omega⟩, by simp only [mz, vx, vy, cutT] <;> omega⟩
    · by_cases q2 : mz 2 (vx T 3) (vy T 3) ≤ C <;> simp only [mz, vx, vy] at q2
      · by_cases q3 : mz 2 (vx T 3) (vy T 3) = C <;> simp only [mz, vx, vy] at q3
        · exact ⟨_, _, Or.inl ⟨3, by decide, rfl, rfl, by simp only [mz, vx, vy] <;> omega⟩, by simp only [mz, vx, vy, cutT] <;> omega⟩
        · exact ⟨(T 3 + C) / 2, (-T 3 + C) / 2, Or.inr ⟨3, by decide, by simp only [mz] <;> omega, by simp only [mz] <;> omega, by simp only [mz, vx, vy, nxt] <;> omega⟩, by simp only [mz, cutT] <;> omega⟩
      · exact ⟨T 5 + C, -T 5, Or.inr ⟨5, by decide, by simp only [mz] <;> omega, by simp only [mz] <;> omega, by simp only [mz, vx, vy, nxt] <;> omega⟩, by simp only [mz, cutT] <;> omega⟩
  · by_cases q1 : mz 2 (vx T 7) (vy T 7) ≤ C <;> simp only [mz, vx, vy] at q1
    · exact ⟨_, _, Or.inl ⟨7, by decide, rfl, rfl, by simp only [mz, vx, vy] <;> omega⟩, by simp only [mz, vx, vy, cutT] <;> omega⟩
    · by_cases q2 : mz 2 (vx T 4) (vy T 4) ≤ C <;> simp only [mz, vx, vy] at q2
      · by_cases q3 : mz 2 (vx T 4) (vy T 4) = C <;> simp only [mz, vx, vy] at q3
        · exact ⟨_, _, Or.inl ⟨4, by decide, rfl, rfl, by simp only [mz, vx, vy] <;> omega⟩, by simp only [mz, vx, vy, cutT] <;> omega⟩
        · exact ⟨(-T 7 + C) / 2, (T 7 + C) / 2, Or.inr ⟨7, by decide, by simp only [mz] <;> omega, by simp only [mz] <;> omega, by simp only [mz, vx, vy, nxt] <;> omega⟩, by simp only [mz, cutT] <;> omega⟩
      · exact ⟨-T 4, T 4 + C, Or.inr ⟨4, by decide, by simp only [mz] <;> omega, by simp only [mz] <;> omega, by simp only [mz, vx, vy, nxt] <;> omega⟩, by simp only [mz, cutT] <;> omega⟩
  · by_cases q1 : mz 2 (vx T 7) (vy T 7) ≤ C <;> simp only [mz, vx, vy] at q1
    · by_cases q3 : mz 2 (vx T 7) (vy T 7) = C <;> simp only [mz, vx, vy] at q3
      · exact ⟨_, _, Or.inl ⟨7, by decide, rfl, rfl, by simp only [mz, vx, vy] <;> omega⟩, by simp only [mz, vx, vy, cutT] <;> omega⟩
      · exact ⟨-T 1 + C, T 1, Or.inr ⟨1, by decide, by simp only [mz] <;> omega, by simp only [mz] <;> omega, by simp only [mz, vx, vy, nxt] <;> omega⟩, by simp only [mz, cutT] <;> omega⟩
    · by_cases q2 : mz 2 (vx T 4) (vy T 4) ≤ C <;> simp only [mz, vx, vy] at q2
      · by_cases q3 : mz 2 (vx T 4) (vy T 4) = C <;> simp only [mz, vx, vy] at q3
        · exact ⟨_, _, Or.inl ⟨4, by decide, rfl, rfl, by simp only [mz, vx, vy] <;> omega⟩, by simp only [mz, vx, vy, cutT] <;> omega⟩
        · exact ⟨(-T 7 + C) / 2, (T 7 + C) / 2, Or.inr ⟨7, by decide, by simp only [mz] <;> omega, by simp only [mz] <;> omega, by simp only [mz, vx, vy, nxt] <;> omega⟩, by simp only [mz, cutT] <;> omega⟩
      · exact ⟨-T 4, T 4 + C, Or.inr ⟨4, by decide, by simp only [mz] <;> omega, by simp only [mz] <;> omega, by simp only [mz, vx, vy, nxt] <;> omega⟩, by simp only [mz, cutT] <;> omega⟩
  · by_cases q1 : mz 2 (vx T 3) (vy T 3) ≤ C <;> simp only [mz, vx, vy] at q1
    · exact ⟨_, _, Or.inl ⟨3, by decide, rfl, rfl, by simp only [mz, vx, vy] <;> omega⟩, by simp only [mz, vx, vy, cutT] <;> omega⟩
    · exact ⟨T 5 + C, -T 5, Or.inr ⟨5, by decide, by simp only [mz] <;> omega, by simp only [mz] <;> omega, by simp only [mz, vx, vy, nxt] <;> omega⟩, by simp only [mz, cutT] <;> omega⟩
  · exact ⟨_, _, Or.inl ⟨6, by decide, rfl, rfl, by simp only [mz, vx, vy] <;> omega⟩, by simp only [mz, vx, vy, cutT] <;> omega⟩
  · exact ⟨_, _, Or.inl ⟨5, by decide, rfl, rfl, by simp only [mz, vx, vy] <;> omega⟩, by simp only [mz, vx, vy, cutT] <;> omega⟩
  · exact ⟨_, _, Or.inl ⟨6, by decide, rfl, rfl, by simp only [mz, vx, vy] <;> omega⟩, by simp only [mz, vx, vy, cutT] <;> omega⟩
  · by_cases q1 : mz 2 (vx T 4) (vy T 4) ≤ C <;> simp only [mz, vx, vy] at q1
    · exact ⟨_, _, Or.inl ⟨4, by decide, rfl, rfl, by simp only [mz, vx, vy] <;> omega⟩, by simp only [mz, vx, vy, cutT] <;> omega⟩
    · exact ⟨-T 4, T 4 + C, Or.inr ⟨4, by decide, by simp only [mz] <;> omega, by simp only [mz] <;> omega, by simp only [mz, vx, vy, nxt] <;> omega⟩, by simp only [mz, cutT] <;> omega⟩
theorem cut_att3 {e T : Nat → Int} (h : Fit e T) {C : Int} (hC : C % 2 = 0) (h1 : -T 7 < C) (h2 : C < T 3) : ∀ j, j < 8 → ∃ x y, Kp T 3 C x y ∧ mz j x y = cutT T 3 C j := by
  obtain ⟨v2, v3, v6, v7⟩ := fit_even h
  obtain ⟨a, ww, -, -⟩ := h
  have a := of8 a
  simp only [ld] at a
  obtain ⟨a0, a1, a2, a3, a4, a5, a6, a7⟩ := a
  apply all8
  · by_cases q1 : mz 3 (vx T 2) (vy T 2) ≤ C <;> simp only [mz, vx, vy] at q1
    · exact ⟨_, _, Or.inl ⟨2, by decide, rfl, rfl, by simp only [mz, vx, vy] <;> omega⟩, by simp only [mz, vx, vy, cutT] <;> omega⟩
    · by_cases q2 : mz 3 (vx T 1) (vy T 1) ≤ C <;> simp only [mz, vx, vy] at q2
      · by_cases q3 : mz 3 (vx T 1) (vy T 1) = C <;> simp only [mz, vx, vy] at q3
        · exact ⟨_, _, Or.inl ⟨1, by decide, rfl, rfl, by simp only [mz, vx, vy] <;> omega⟩, by simp only [mz, vx, vy, cutT] <;> omega⟩
        · exact ⟨(T 2 + C) / 2, (T 2 - C) / 2, Or.inr ⟨2, by decide, by simp only [mz] <;> omega, by simp only [mz] <;> omega, by simp only [mz, vx, vy, nxt] <;> omega⟩, by simp only [mz, cutT] <;> omega⟩
      · exact ⟨T 1 + C, T 1, Or.inr ⟨1, by decide, by simp only [mz] <;> omega, by simp only [mz] <;> omega, by simp only [mz, vx, vy, nxt] <;> omega⟩, by simp only [mz, cutT] <;> omega⟩
  · exact ⟨_, _, Or.inl ⟨7, by decide, rfl, rfl, by simp only [mz, vx, vy] <;> omega⟩, by simp only [mz, vx, vy, cutT] <;> omega⟩
  · by_cases q1 : mz 3 (vx T 1) (vy T 1) ≤ C <;> simp only [mz, vx, vy] at q1
    · exact ⟨_, _, Or.inl ⟨1, by decide, rfl, rfl, by simp only [mz, vx, vy] <;> omega⟩, by simp only [mz, vx, vy, cutT] <;> omega⟩
    · exact ⟨T 1 + C, T 1, Or.inr ⟨1, by decide, by simp only [mz] <;> omega, by simp only [mz] <;> omega, by simp only [mz, vx, vy, nxt] <;> omega⟩, by simp only [mz, cutT] <;> omega⟩
  · by_cases q1 : mz 3 (vx T 2) (vy T 2) ≤ C <;> simp only [mz, vx, vy] at q1
    · by_cases q3 : mz 3 (vx T 2) (vy T 2) = C <;> simp only [mz, vx, vy] at q3
      · exact ⟨_, _, Or.inl ⟨2, by decide, rfl, rfl, by simp only [mz, vx, vy] <;> omega⟩, by simp only [mz, vx, vy, cutT] <;> omega⟩
      · exact ⟨T 0, T 0 - C, Or.inr ⟨0, by decide, by simp only [mz] <;> omega, by simp only [mz] <;> omega, by simp only [mz, vx, vy, nxt] <;> omega⟩, by simp only [mz, cutT] <;> omega⟩
    · by_cases q2 : mz 3 (vx T 1) (vy T 1) ≤ C <;> simp only [mz, vx, vy] at q2
      · by_cases q3 : mz 3 (vx T 1) (vy T 1) = C <;> simp only [mz, vx, vy] at q3
        · exact ⟨_, _, Or.inl ⟨1, by decide, rfl, rfl, by simp only [mz, vx, vy] <;> omega⟩, by simp only [mz, vx, vy, cutT] <;> omega⟩
        · exact ⟨(T 2 + C) / 2, (T 2 - C) / 2, Or.inr ⟨2, by decide, by simp only [mz] <;> omega, by simp only [mz] <;> omega, by simp only [mz, vx, vy, nxt] <;> omega⟩, by simp only [mz, cutT] <;> omega⟩
      · exact ⟨T 1 + C, T 1, Or.inr ⟨1, by decide, by simp only [mz] <;> omega, by simp only [mz] <;> omega, by simp only [mz, vx, vy, nxt] <;> omega⟩, by simp only [mz, cutT] <;> omega⟩
  · exact ⟨_, _, Or.inl ⟨4, by decide, rfl, rfl, by simp only [mz, vx, vy] <;> omega⟩, by simp only [mz, vx, vy, cutT] <;> omega⟩
  · by_cases q1 : mz 3 (vx T 5) (vy T 5) ≤ C <;> simp only [mz, vx, vy] at q1
    · exact ⟨_, _, Or.inl ⟨5, by decide, rfl, rfl, by simp only [mz, vx, vy] <;> omega⟩, by simp only [mz, vx, vy, cutT] <;> omega⟩
    · by_cases q2 : mz 3 (vx T 6) (vy T 6) ≤ C <;> simp only [mz, vx, vy] at q2
      · by_cases q3 : mz 3 (vx T 6) (vy T 6) = C <;> simp only [mz, vx, vy] at q3
        · exact ⟨_, _, Or.inl ⟨6, by decide, rfl, rfl, by simp only [mz, vx, vy] <;> omega⟩, by simp only [mz, vx, vy, cutT] <;> omega⟩
        · exact ⟨(-T 6 + C) / 2, (-T 6 - C) / 2, Or.inr ⟨6, by decide, by simp only [mz] <;> omega, by simp only [mz] <;> omega, by simp only [mz, vx, vy, nxt] <;> omega⟩, by simp only [mz, cutT] <;> omega⟩
      · exact ⟨-T 4, -T 4 - C, Or.inr ⟨4, by decide, by simp only [mz] <;> omega, by simp only [mz] <;> omega, by simp only [mz, vx, vy, nxt] <;> omega⟩, by simp only [mz, cutT] <;> omega⟩
  · by_cases q1 : mz 3 (vx T 6) (vy T 6) ≤ C <;> simp only [mz, vx, vy] at q1
    · exact ⟨_, _, Or.inl ⟨6, by decide, rfl, rfl, by simp only [mz, vx, vy] <;> omega⟩, by simp only [mz, vx, vy, cutT] <;> omega⟩
    · exact ⟨-T 4, -T 4 - C, Or.inr ⟨4, by decide, by simp only [mz] <;> omega, by simp only [mz] <;> omega, by simp only [mz, vx, vy, nxt] <;> omega⟩, by simp only [mz, cutT] <;> omega⟩
  · exact ⟨_, _, Or.inl ⟨7, by decide, rfl, rfl, by simp only [mz, vx, vy] <;> omega⟩, by simp only [mz, vx, vy, cutT] <;> omega⟩
theorem cut_att4 {e T : Nat → Int} (h : Fit e T) {C : Int} (hC : C % 2 = 0) (h1 : -T 0 < C) (h2 : C < T 4) : ∀ j, j < 8 → ∃ x y, Kp T 4 C x y ∧ mz j x y = cutT T 4 C j := by
  obtain ⟨v2, v3, v6, v7⟩ := fit_even h
  obtain ⟨a, ww, -, -⟩ := h
  have a := of8 a
  simp only [ld] at a
  obtain ⟨a0, a1, a2, a3, a4, a5, a6, a7⟩ := a
  apply all8
  · exact ⟨_, _, Or.inl ⟨0, by decide, rfl, rfl, by simp only [mz, vx, vy] <;> omega⟩, by simp only [mz, vx, vy, cutT] <;> omega⟩
  · by_cases q1 : mz 4 (vx T 1) (vy T 1) ≤ C <;> simp only [mz, vx, vy] at q1
    · exact ⟨_, _, Or.inl ⟨1, by decide, rfl, rfl, by simp only [mz, vx, vy] <;> omega⟩, by simp only [mz, vx, vy, cutT] <;> omega⟩
    · exact ⟨-C, T 2 + C, Or.inr ⟨2, by decide, by simp only [mz] <;> omega, by simp only [mz] <;> omega, by simp only [mz, vx, vy, nxt] <;> omega⟩, by simp only [mz, cutT] <;> omega⟩
  · exact ⟨_, _, Or.inl ⟨2, by decide, rfl, rfl, by simp only [mz, vx, vy] <;> omega⟩, by simp only [mz, vx, vy, cutT] <;> omega⟩
  · exact ⟨_, _, Or.inl ⟨0, by decide, rfl, rfl, by simp only [mz, vx, vy] <;> omega⟩, by simp only [mz, vx, vy, cutT] <;> omega⟩
  · by_cases q1 : mz 4 (vx T 5) (vy T 5) ≤ C <;> simp only [mz, vx, vy] at q1
    · by_cases q3 : mz 4 (vx T 5) (vy T 5) = C <;> simp only [mz, vx, vy] at q3
      · exact ⟨_, _, Or.inl ⟨5, by decide, rfl, rfl, by simp only [mz, vx, vy] <;> omega⟩, by simp only [mz, vx, vy, cutT] <;> omega⟩
      · exact ⟨-C, -T 6 + C, Or.inr ⟨6, by decide, by simp only [mz] <;> omega, by simp only [mz] <;> omega, by simp only [mz, vx, vy, nxt] <;> omega⟩, by simp only [mz, cutT] <;> omega⟩
    · by_cases q2 : mz 4 (vx T 3) (vy T 3) ≤ C <;> simp only [mz, vx, vy] at q2
      · by_cases q3 : mz 4 (vx T 3) (vy T 3) = C <;> simp only [mz, vx, vy] at q3
        · exact ⟨_, _, Or.inl ⟨3, by decide, rfl, rfl, by simp only [mz, vx, vy] <;> omega⟩, by simp only [mz, vx, vy, cutT] <;> omega⟩
        · exact ⟨-C, -T 5, Or.inr ⟨5, by decide, by simp only [mz] <;> omega, by simp only [mz] <;> omega, by simp only [mz, vx, vy, nxt] <;> omega⟩, by simp only [mz, cutT] <;> omega⟩
      · exact ⟨-C, -T 3 - C, Or.inr ⟨3, by decide, by simp only [mz] <;> omega, by simp only [mz] <;> omega, by simp only [mz, vx, vy, nxt] <;> omega⟩, by simp only [mz, cutT] <;> omega⟩
  · by_cases q1 : mz 4 (vx T 3) (vy T 3) ≤ C <;> simp only [mz, vx, vy] at q1
    · exact ⟨_, _, Or.inl ⟨3, by decide, rfl, rfl, by simp only [mz, vx, vy] <;> omega⟩, by simp only [mz, vx, vy, cutT] <;> omega⟩
    · exact ⟨-C, -T 3 - C, Or.inr ⟨3, by decide, by simp only [mz] <;> omega, by simp only [mz] <;> omega, by simp only [mz, vx, vy, nxt] <;> omega⟩, by simp only [mz, cutT] <;> omega⟩
  · by_cases q1 : mz 4 (vx T 5) (vy T 5) ≤ C <;> simp only [mz, vx, vy] at q1
    · exact ⟨_, _, Or.inl ⟨5, by decide, rfl, rfl, by simp only [mz, vx, vy] <;> omega⟩, by simp only [mz, vx, vy, cutT] <;> omega⟩
    · by_cases q2 : mz 4 (vx T 3) (vy T 3) ≤ C <;> simp only [mz, vx, vy] at q2
      · by_cases q3 : mz 4 (vx T 3) (vy T 3) = C <;> simp only [mz, vx, vy] at q3
        · exact ⟨_, _, Or.inl ⟨3, by decide, rfl, rfl, by simp only [mz, vx, vy] <;> omega⟩, by simp only [mz, vx, vy, cutT] <;> omega⟩
        · exact ⟨-C, -T 5, Or.inr ⟨5, by decide, by simp only [mz] <;> omega, by simp only [mz] <;> omega, by simp only [mz, vx, vy, nxt] <;> omega⟩, by simp only [mz, cutT] <;> omega⟩
      · exact ⟨-C, -T 3 - C, Or.inr ⟨3, by decide, by simp only [mz] <;> omega, by simp only [mz] <;> omega, by simp only [mz, vx, vy, nxt] <;> omega⟩, by simp only [mz, cutT] <;> omega⟩
  · by_cases q1 : mz 4 (vx T 7) (vy T 7) ≤ C <;> simp only [mz, vx, vy] at q1
    · exact ⟨_, _, Or.inl ⟨7, by decide, rfl, rfl, by simp only [mz, vx, vy] <;> omega⟩, by simp only [mz, vx, vy, cutT] <;> omega⟩
    · by_cases q2 : mz 4 (vx T 1) (vy T 1) ≤ C <;> simp only [mz, vx, vy] at q2
      · by_cases q3 : mz 4 (vx T 1) (vy T 1) = C <;> simp only [mz, vx, vy] at q3
        · exact ⟨_, _, Or.inl ⟨1, by decide, rfl, rfl, by simp only [mz, vx, vy] <;> omega⟩, by simp only [mz, vx, vy, cutT] <;> omega⟩
        · exact ⟨-C, T 1, Or.inr ⟨1, by decide, by simp only [mz] <;> omega, by simp only [mz] <;> omega, by simp only [mz, vx, vy, nxt] <;> omega⟩, by simp only [mz, cutT] <;> omega⟩
      · exact ⟨-C, T 2 + C, Or.inr ⟨2, by decide, by simp only [mz] <;> omega, by simp only [mz] <;> omega, by simp only [mz, vx, vy, nxt] <;> omega⟩, by simp only [mz, cutT] <;> omega⟩
theorem cut_att5 {e T : Nat → Int} (h : Fit e T) {C : Int} (hC : C % 2 = 0) (h1 : -T 1 < C) (h2 : C < T 5) : ∀ j, j < 8 → ∃ x y, Kp T 5 C x y ∧ mz j x y = cutT T 5 C j := by
  obtain ⟨v2, v3, v6, v7⟩ := fit_even h
  obtain ⟨a, ww, -, -⟩ := h
  have a := of8 a
  simp only [ld] at a
  obtain ⟨a0, a1, a2, a3, a4, a5, a6, a7⟩ := a
  apply all8
  · by_cases q1 : mz 5 (vx T 2) (vy T 2) ≤ C <;> simp only [mz, vx, vy] at q1
    · exact ⟨_, _, Or.inl ⟨2, by decide, rfl, rfl, by simp only [mz, vx, vy] <;> omega⟩, by simp only [mz, vx, vy, cutT] <;> omega⟩
    · exact ⟨T 2 + C, -C, Or.inr ⟨2, by decide, by simp only [mz] <;> omega, by simp only [mz] <;> omega, by simp only [mz, vx, vy, nxt] <;> omega⟩, by simp only [mz, cutT] <;> omega⟩
  · exact ⟨_, _, Or.inl ⟨1, by decide, rfl, rfl, by simp only [mz, vx, vy] <;> omega⟩, by simp only [mz, vx, vy, cutT] <;> omega⟩
  · exact ⟨_, _, Or.inl ⟨1, by decide, rfl, rfl, by simp only [mz, vx, vy] <;> omega⟩, by simp only [mz, vx, vy, cutT] <;> omega⟩
  · by_cases q1 : mz 5 (vx T 0) (vy T 0) ≤ C <;> simp only [mz, vx, vy] at q1
    · exact ⟨_, _, Or.inl ⟨0, by decide, rfl, rfl, by simp only [mz, vx, vy] <;> omega⟩, by simp only [mz, vx, vy, cutT] <;> omega⟩
    · by_cases q2 : mz 5 (vx T 2) (vy T 2) ≤ C <;> simp only [mz, vx, vy] at q2
      · by_cases q3 : mz 5 (vx T 2) (vy T 2) = C <;> simp only [mz, vx, vy] at q3
        · exact ⟨_, _, Or.inl ⟨2, by decide, rfl, rfl, by simp only [mz, vx, vy] <;> omega⟩, by simp only [mz, vx, vy, cutT] <;> omega⟩
        · exact ⟨T 0, -C, Or.inr ⟨0, by decide, by simp only [mz] <;> omega, by simp only [mz] <;> omega, by simp only [mz, vx, vy, nxt] <;> omega⟩, by simp only [mz, cutT] <;> omega⟩
      · exact ⟨T 2 + C, -C, Or.inr ⟨2, by decide, by simp only [mz] <;> omega, by simp only [mz] <;> omega, by simp only [mz, vx, vy, nxt] <;> omega⟩, by simp only [mz, cutT] <;> omega⟩
  · by_cases q1 : mz 5 (vx T 4) (vy T 4) ≤ C <;> simp only [mz, vx, vy] at q1
    · exact ⟨_, _, Or.inl ⟨4, by decide, rfl, rfl, by simp only [mz, vx, vy] <;> omega⟩, by simp only [mz, vx, vy, cutT] <;> omega⟩
    · exact ⟨-T 7 - C, -C, Or.inr ⟨7, by decide, by simp only [mz] <;> omega, by simp only [mz] <;> omega, by simp only [mz, vx, vy, nxt] <;> omega⟩, by simp only [mz, cutT] <;> omega⟩
  · by_cases q1 : mz 5 (vx T 0) (vy T 0) ≤ C <;> simp only [mz, vx, vy] at q1
    · by_cases q3 : mz 5 (vx T 0) (vy T 0) = C <;> simp only [mz, vx, vy] at q3
      · exact ⟨_, _, Or.inl ⟨0, by decide, rfl, rfl, by simp only [mz, vx, vy] <;> omega⟩, by simp only [mz, vx, vy, cutT] <;> omega⟩
      · exact ⟨T 3 - C, -C, Or.inr ⟨3, by decide, by simp only [mz] <;> omega, by simp only [mz] <;> omega, by simp only [mz, vx, vy, nxt] <;> omega⟩, by simp only [mz, cutT] <;> omega⟩
    · by_cases q2 : mz 5 (vx T 2) (vy T 2) ≤ C <;> simp only [mz, vx, vy] at q2
      · by_cases q3 : mz 5 (vx T 2) (vy T 2) = C <;> simp only [mz, vx, vy] at q3
        · exact ⟨_, _, Or.inl ⟨2, by decide, rfl, rfl, by simp only [mz, vx, vy] <;> omega⟩, by simp only [mz, vx, vy, cutT] <;> omega⟩
        · exact ⟨T 0, -C, Or.inr ⟨0, by decide, by simp only [mz] <;> omega, by simp only [mz] <;> omega, by simp only [mz, vx, vy, nxt] <;> omega⟩, by simp only [mz, cutT] <;> omega⟩
      · exact ⟨T 2 + C, -C, Or.inr ⟨2, by decide, by simp only [mz] <;> omega, by simp only [mz] <;> omega, by simp only [mz, vx, vy, nxt] <;> omega⟩, by simp only [mz, cutT] <;> omega⟩
  · by_cases q1 : mz 5 (vx T 6) (vy T 6) ≤ C <;> simp only [mz, vx, vy] at q1
    · exact ⟨_, _, Or.inl ⟨6, by decide, rfl, rfl, by simp only [mz, vx, vy] <;> omega⟩, by simp only [mz, vx, vy, cutT] <;> omega⟩
    · by_cases q2 : mz 5 (vx T 4) (vy T 4) ≤ C <;> simp only [mz, vx, vy] at q2
      · by_cases q3 : mz 5 (vx T 4) (vy T 4) = C <;> simp only [mz, vx, vy] at q3
        · exact ⟨_, _, Or.inl ⟨4, by decide, rfl, rfl, by simp only [mz, vx, vy] <;> omega⟩, by simp only [mz, vx, vy, cutT] <;> omega⟩
        · exact ⟨-T 4, -C, Or.inr ⟨4, by decide, by simp only [mz] <;> omega, by simp only [mz] <;> omega, by simp only [mz, vx, vy, nxt] <;> omega⟩, by simp only [mz, cutT] <;> omega⟩
      · exact ⟨-T 7 - C, -C, Or.inr ⟨7, by decide, by simp only [mz] <;> omega, by simp only [mz] <;> omega, by simp only [mz, vx, vy, nxt] <;> omega⟩, by simp only [mz, cutT] <;> omega⟩
  · exact ⟨_, _, Or.inl ⟨7, by decide, rfl, rfl, by simp only [mz, vx, vy] <;> omega⟩, by simp only [mz, vx, vy, cutT] <;> omega⟩
theorem cut_att6 {e T : Nat → Int} (h : Fit e T) {C : Int} (hC : C % 2 = 0) (h1 : -T 2 < C) (h2 : C < T 6) : ∀ j, j < 8 → ∃ x y, Kp T 6 C x y ∧ mz j x y = cutT T 6 C j := by
  obtain ⟨v2, v3, v6, v7⟩ := fit_even h
  obtain ⟨a, ww, -, -⟩ := h
  have a := of8 a
  simp only [ld] at a
  obtain ⟨a0, a1, a2, a3, a4, a5, a6, a7⟩ := a
  apply all8
  · exact ⟨_, _, Or.inl ⟨2, by decide, rfl, rfl, by simp only [mz, vx, vy] <;> omega⟩, by simp only [mz, vx, vy, cutT] <;> omega⟩
  · exact ⟨_, _, Or.inl ⟨1, by decide, rfl, rfl, by simp only [mz, vx, vy] <;> omega⟩, by simp only [mz, vx, vy, cutT] <;> omega⟩
  · exact ⟨_, _, Or.inl ⟨2, by decide, rfl, rfl, by simp only [mz, vx, vy] <;> omega⟩, by simp only [mz, vx, vy, cutT] <;> omega⟩
  · by_cases q1 : mz 6 (vx T 0) (vy T 0) ≤ C <;> simp only [mz, vx, vy] at q1
    · exact ⟨_, _, Or.inl ⟨0, by decide, rfl, rfl, by simp only [mz, vx, vy] <;> omega⟩, by simp only [mz, vx, vy, cutT] <;> omega⟩
    · exact ⟨T 0, -T 0 - C, Or.inr ⟨0, by decide, by simp only [mz] <;> omega, by simp only [mz] <;> omega, by simp only [mz, vx, vy, nxt] <;> omega⟩, by simp only [mz, cutT] <;> omega⟩
  · by_cases q1 : mz 6 (vx T 4) (vy T 4) ≤ C <;> simp only [mz, vx, vy] at q1
    · exact ⟨_, _, Or.inl ⟨4, by decide, rfl, rfl, by simp only [mz, vx, vy] <;> omega⟩, by simp only [mz, vx, vy, cutT] <;> omega⟩
    · by_cases q2 : mz 6 (vx T 7) (vy T 7) ≤ C <;> simp only [mz, vx, vy] at q2
      · by_cases q3 : mz 6 (vx T 7) (vy T 7) = C <;> simp only [mz, vx, vy] at q3
        · exact ⟨_, _, Or.inl ⟨7, by decide, rfl, rfl, by simp only [mz, vx, vy] <;> omega⟩, by simp only [mz, vx, vy, cutT] <;> omega⟩
        · exact ⟨(-T 7 - C) / 2, (T 7 - C) / 2, Or.inr ⟨7, by decide, by simp only [mz] <;> omega, by simp only [mz] <;> omega, by simp only [mz, vx, vy, nxt] <;> omega⟩, by simp only [mz, cutT] <;> omega⟩
      · exact ⟨-T 1 - C, T 1, Or.inr ⟨1, by decide, by simp only [mz] <;> omega, by simp only [mz] <;> omega, by simp only [mz, vx, vy, nxt] <;> omega⟩, by simp only [mz, cutT] <;> omega⟩
  · by_cases q1 : mz 6 (vx T 3) (vy T 3) ≤ C <;> simp only [mz, vx, vy] at q1
    · exact ⟨_, _, Or.inl ⟨3, by decide, rfl, rfl, by simp only [mz, vx, vy] <;> omega⟩, by simp only [mz, vx, vy, cutT] <;> omega⟩
    · by_cases q2 : mz 6 (vx T 0) (vy T 0) ≤ C <;> simp only [mz, vx, vy] at q2
      · by_cases q3 : mz 6 (vx T 0) (vy T 0) = C <;> simp only [mz, vx, vy] at q3
        · exact ⟨_, _, Or.inl ⟨0, by decide, rfl, rfl, by simp only [mz, vx, vy] <;> omega⟩, by simp only [mz, vx, vy, cutT] <;> omega⟩
        · exact ⟨(T 3 - C) / 2, (-T 3 - C) / 2, Or.inr ⟨3, by decide, by simp only [mz] <;> omega, by simp only [mz] <;> omega, by simp only [mz, vx, vy, nxt] <;> omega⟩, by simp only [mz, cutT] <;> omega⟩
      · exact ⟨T 0, -T 0 - C, Or.inr ⟨0, by decide, by simp only [mz] <;> omega, by simp only [mz] <;> omega, by simp only [mz, vx, vy, nxt] <;> omega⟩, by simp only [mz, cutT] <;> omega⟩
  · by_cases q1 : mz 6 (vx T 3) (vy T 3) ≤ C <;> simp only [mz, vx, vy] at q1
    · by_cases q3 : mz 6 (vx T 3) (vy T 3) = C <;> simp only [mz, vx, vy] at q3
      · exact ⟨_, _, Or.inl ⟨3, by decide, rfl, rfl, by simp only [mz, vx, vy] <;> omega⟩, by simp only [mz, vx, vy, cutT] <;> omega⟩
      · exact ⟨T 5 - C, -T 5, Or.inr ⟨5, by decide, by simp only [mz] <;> omega, by simp only [mz] <;> omega, by simp only [mz, vx, vy, nxt] <;> omega⟩, by simp only [mz, cutT] <;> omega⟩
    · by_cases q2 : mz 6 (vx T 0) (vy T 0) ≤ C <;> simp only [mz, vx, vy] at q2
      · by_cases q3 : mz 6 (vx T 0) (vy T 0) = C <;> simp only [mz, vx, vy] at q3
        · exact ⟨_, _, Or.inl ⟨0, by decide, rfl, rfl, by simp only [mz, vx, vy] <;> omega⟩, by simp only [mz, vx, vy, cutT] <;> omega⟩
        · exact ⟨(T 3 - C) / 2, (-T 3 - C) / 2, Or.inr ⟨3, by decide, by simp only [mz] <;> omega, by simp only [mz] <;> omega, by simp only [mz, vx, vy, nxt] <;> omega⟩, by simp only [mz, cutT] <;> omega⟩
      · exact ⟨T 0, -T 0 - C, Or.inr ⟨0, by decide, by simp only [mz] <;> omega, by simp only [mz] <;> omega, by simp only [mz, vx, vy, nxt] <;> omega⟩, by simp only [mz, cutT] <;> omega⟩
  · by_cases q1 : mz 6 (vx T 7) (vy T 7) ≤ C <;> simp only [mz, vx, vy] at q1
    · exact ⟨_, _, Or.inl ⟨7, by decide, rfl, rfl, by simp only [mz, vx, vy] <;> omega⟩, by simp only [mz, vx, vy, cutT] <;> omega⟩
    · exact ⟨-T 1 - C, T 1, Or.inr ⟨1, by decide, by simp only [mz] <;> omega, by simp only [mz] <;> omega, by simp only [mz, vx, vy, nxt] <;> omega⟩, by simp only [mz, cutT] <;> omega⟩
theorem cut_att7 {e T : Nat → Int} (h : Fit e T) {C : Int} (hC : C % 2 = 0) (h1 : -T 3 < C) (h2 : C < T 7) : ∀ j, j < 8 → ∃ x y, Kp T 7 C x y ∧ mz j x y = cutT T 7 C j := by
  obtain ⟨v2, v3, v6, v7⟩ := fit_even h
  obtain ⟨a, ww, -, -⟩ := h
  have a := of8 a
  simp only [ld] at a
  obtain ⟨a0, a1, a2, a3, a4, a5, a6, a7⟩ := a
  apply all8
  · exact ⟨_, _, Or.inl ⟨0, by decide, rfl, rfl, by simp only [mz, vx, vy] <;> omega⟩, by simp only [mz, vx, vy, cutT] <;> omega⟩
  · by_cases q1 : mz 7 (vx T 1) (vy T 1) ≤ C <;> simp only [mz, vx, vy] at q1
    · exact ⟨_, _, Or.inl ⟨1, by decide, rfl, rfl, by simp only [mz, vx, vy] <;> omega⟩, by simp only [mz, vx, vy, cutT] <;> omega⟩
    · by_cases q2 : mz 7 (vx T 2) (vy T 2) ≤ C <;> simp only [mz, vx, vy] at q2
      · by_cases q3 : mz 7 (vx T 2) (vy T 2) = C <;> simp only [mz, vx, vy] at q3
        · exact ⟨_, _, Or.inl ⟨2, by decide, rfl, rfl, by simp only [mz, vx, vy] <;> omega⟩, by simp only [mz, vx, vy, cutT] <;> omega⟩
        · exact ⟨(T 2 - C) / 2, (T 2 + C) / 2, Or.inr ⟨2, by decide, by simp only [mz] <;> omega, by simp only [mz] <;> omega, by simp only [mz, vx, vy, nxt] <;> omega⟩, by simp only [mz, cutT] <;> omega⟩
      · exact ⟨T 0, T 0 + C, Or.inr ⟨0, by decide, by simp only [mz] <;> omega, by simp only [mz] <;> omega, by simp only [mz, vx, vy, nxt] <;> omega⟩, by simp only [mz, cutT] <;> omega⟩
  · by_cases q1 : mz 7 (vx T 2) (vy T 2) ≤ C <;> simp only [mz, vx, vy] at q1
    · exact ⟨_, _, Or.inl ⟨2, by decide, rfl, rfl, by simp only [mz, vx, vy] <;> omega⟩, by simp only [mz, vx, vy, cutT] <;> omega⟩
    · exact ⟨T 0, T 0 + C, Or.inr ⟨0, by decide, by simp only [mz] <;> omega, by simp only [mz] <;> omega, by simp only [mz, vx, vy, nxt] <;> omega⟩, by simp only [mz, cutT] <;> omega⟩
  · exact ⟨_, _, Or.inl ⟨3, by decide, rfl, rfl, by simp only [mz, vx, vy] <;> omega⟩, by simp only [mz, vx, vy, cutT] <;> omega⟩
  · by_cases q1 : mz 7 (vx T 6) (vy T 6) ≤ C <;> simp only [mz, vx, vy] at q1
    · exact ⟨_, _, Or.inl ⟨6, by decide, rfl, rfl, by simp only [mz, vx, vy] <;> omega⟩, by simp only [mz, vx, vy, cutT] <;> omega⟩
    · by_cases q2 : mz 7 (vx T 5) (vy T 5) ≤ C <;> simp only [mz, vx, vy] at q2
      · by_cases q3 : mz 7 (vx T 5) (vy T 5) = C <;> simp only [mz, vx, vy] at q3
        · exact ⟨_, _, Or.inl ⟨5, by decide, rfl, rfl, by simp only [mz, vx, vy] <;> omega⟩, by simp only [mz, vx, vy, cutT] <;> omega⟩
        · exact ⟨(-T 6 - C) / 2, (-T 6 + C) / 2, Or.inr ⟨6, by decide, by simp only [mz] <;> omega, by simp only [mz] <;> omega, by simp only [mz, vx, vy, nxt] <;> omega⟩, by simp only [mz, cutT] <;> omega⟩
      · exact ⟨-T 5 - C, -T 5, Or.inr ⟨5, by decide, by simp only [mz] <;> omega, by simp only [mz] <;> omega, by simp only [mz, vx, vy, nxt] <;> omega⟩, by simp only [mz, cutT] <;> omega⟩
  · exact ⟨_, _, Or.inl ⟨3, by decide, rfl, rfl, by simp only [mz, vx, vy] <;> omega⟩, by simp only [mz, vx, vy, cutT] <;> omega⟩
  · by_cases q1 : mz 7 (vx T 5) (vy T 5) ≤ C <;> simp only [mz, vx, vy] at q1
    · exact ⟨_, _, Or.inl ⟨5, by decide, rfl, rfl, by simp only [mz, vx, vy] <;> omega⟩, by simp only [mz, vx, vy, cutT] <;> omega⟩
    · exact ⟨-T 5 - C, -T 5, Or.inr ⟨5, by decide, by simp only [mz] <;> omega, by simp only [mz] <;> omega, by simp only [mz, vx, vy, nxt] <;> omega⟩, by simp only [mz, cutT] <;> omega⟩
  · by_cases q1 : mz 7 (vx T 6) (vy T 6) ≤ C <;> simp only [mz, vx, vy] at q1
    · by_cases q3 : mz 7 (vx T 6) (vy T 6) = C <;> simp only [mz, vx, vy] at q3
      · exact ⟨_, _, Or.inl ⟨6, by decide, rfl, rfl, by simp only [mz, vx, vy] <;> omega⟩, by simp only [mz, vx, vy, cutT] <;> omega⟩
      · exact ⟨-T 4, -T 4 + C, Or.inr ⟨4, by decide, by simp only [mz] <;> omega, by simp only [mz] <;> omega, by simp only [mz, vx, vy, nxt] <;> omega⟩, by simp only [mz, cutT] <;> omega⟩
    · by_cases q2 : mz 7 (vx T 5) (vy T 5) ≤ C <;> simp only [mz, vx, vy] at q2
      · by_cases q3 : mz 7 (vx T 5) (vy T 5) = C <;> simp only [mz, vx, vy] at q3
        · exact ⟨_, _, Or.inl ⟨5, by decide, rfl, rfl, by simp only [mz, vx, vy] <;> omega⟩, by simp only [mz, vx, vy, cutT] <;> omega⟩
        · exact ⟨(-T 6 - C) / 2, (-T 6 + C) / 2, Or.inr ⟨6, by decide, by simp only [mz] <;> omega, by simp only [mz] <;> omega, by simp only [mz, vx, vy, nxt] <;> omega⟩, by simp only [mz, cutT] <;> omega⟩
      · exact ⟨-T 5 - C, -T 5, Or.inr ⟨5, by decide, by simp only [mz] <;> omega, by simp only [mz] <;> omega, by simp only [mz, vx, vy, nxt] <;> omega⟩, by simp only [mz, cutT] <;> omega⟩
theorem cut_att {e T : Nat → Int} (h : Fit e T) {C : Int} (hC : C % 2 = 0) : ∀ w, w < 8 → -T (opp w) < C → C < T w → ∀ j, j < 8 → ∃ x y, Kp T w C x y ∧ mz j x y = cutT T w C j :=
  all8 (fun h1 h2 => cut_att0 h hC h1 h2) (fun h1 h2 => cut_att1 h hC h1 h2) (fun h1 h2 => cut_att2 h hC h1 h2) (fun h1 h2 => cut_att3 h hC h1 h2) (fun h1 h2 => cut_att4 h hC h1 h2) (fun h1 h2 => cut_att5 h hC h1 h2) (fun h1 h2 => cut_att6 h hC h1 h2) (fun h1 h2 => cut_att7 h hC h1 h2)
