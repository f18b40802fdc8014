/-! ===== PURE: at least three sides, an area above 0 ===== -/
theorem fit_no3 {e T : Nat → Int} (h : Fit e T) : (0 < ld T 6 ∨ 0 < ld T 5 ∨ 0 < ld T 3) ∧ (0 < ld T 5 ∨ 0 < ld T 3 ∨ 0 < ld T 0) ∧ (0 < ld T 3 ∨ 0 < ld T 0 ∨ 0 < ld T 2) ∧ (0 < ld T 0 ∨ 0 < ld T 2 ∨ 0 < ld T 1) ∧ (0 < ld T 2 ∨ 0 < ld T 1 ∨ 0 < ld T 7) ∧ (0 < ld T 1 ∨ 0 < ld T 7 ∨ 0 < ld T 4) ∧ (0 < ld T 7 ∨ 0 < ld T 4 ∨ 0 < ld T 6) ∧ (0 < ld T 4 ∨ 0 < ld T 6 ∨ 0 < ld T 5) := by
  obtain ⟨a, w, -, -⟩ := h
  have a := of8 a
  simp only [ld] at a
  obtain ⟨a0, a1, a2, a3, a4, a5, a6, a7⟩ := a
  simp only [ld]
  refine ⟨?_, ?_, ?_, ?_, ?_, ?_, ?_, ?_⟩ <;> omega
/-- twice the area, doubled twice: over the eight sides -/
def crs (T : Nat → Int) (k : Nat) : Int := vx T k * vy T (nxt k) - vy T k * vx T (nxt k)
theorem crs_eq (T : Nat → Int) : ∀ k, k < 8 → crs T k = T k * ld T k := by
  have key : ∀ a b c d : Int, (a * (b - a) - (a - c) * a = a * (b + c - 2 * a)) := by
    intro a b c d
    rw [Int.mul_comm (a - c) a, ← Int.mul_sub]
    congr 1
    omega
  apply all8 <;> simp only [crs, vx, vy, nxt, ld]
  · rw [Int.mul_comm (T 0 - T 3) (T 0), ← Int.mul_sub]; congr 1; omega
  · rw [Int.mul_comm (T 2 - T 1) (T 1), ← Int.mul_sub]; congr 1; omega
  · simp only [Int.mul_add, Int.mul_sub, Int.sub_mul, Int.add_mul]
    have := Int.mul_comm (T 0) (T 1)
    have := Int.mul_comm (T 0) (T 2)
    have := Int.mul_comm (T 1) (T 2)
    omega
  · simp only [Int.mul_add, Int.mul_sub, Int.sub_mul, Int.add_mul, Int.neg_mul]
    have := Int.mul_comm (T 0) (T 3)
    have := Int.mul_comm (T 0) (T 5)
    have := Int.mul_comm (T 3) (T 5)
    omega
  · simp only [Int.mul_add, Int.mul_sub, Int.sub_mul, Int.add_mul, Int.neg_mul, Int.mul_neg, Int.mul_comm (T 6) (T 4), Int.mul_comm (T 7) (T 4), Int.mul_comm (2 : Int), Int.mul_assoc]
    rw [Int.mul_left_comm, ← Int.mul_assoc]
    omega
  · simp only [Int.mul_add, Int.mul_sub, Int.sub_mul, Int.add_mul, Int.neg_mul, Int.mul_neg]
    have := Int.mul_comm (T 3) (T 5)
    have := Int.mul_comm (T 6) (T 5)
    have : T 5 * (2 * T 5) = 2 * (T 5 * T 5) := Int.mul_left_comm _ _ _
    omega
  · simp only [Int.mul_add, Int.mul_sub, Int.sub_mul, Int.add_mul, Int.neg_mul, Int.mul_neg]
    have := Int.mul_comm (T 4) (T 5)
    have := Int.mul_comm (T 4) (T 6)
    have := Int.mul_comm (T 5) (T 6)
    omega
  · simp only [Int.mul_add, Int.mul_sub, Int.sub_mul, Int.add_mul, Int.neg_mul, Int.mul_neg]
    have := Int.mul_comm (T 1) (T 4)
    have := Int.mul_comm (T 1) (T 7)
    have := Int.mul_comm (T 4) (T 7)
    omega
def area8 (T : Nat → Int) : Int := crs T 6 + crs T 5 + crs T 3 + crs T 0 + crs T 2 + crs T 1 + crs T 7 + crs T 4
/-- seen from a corner, each side adds what is not below 0 -/
theorem area_pos {e T : Nat → Int} (h : Fit e T) : 0 < area8 T := by
  have hv := of8 (fit_v h 6 (by decide))
  have hn := fit_no3 h
  have hl := of8 h.1
  have hw := h.2.1
  unfold area8
  rw [crs_eq T 6 (by decide), crs_eq T 5 (by decide), crs_eq T 3 (by decide), crs_eq T 0 (by decide), crs_eq T 2 (by decide), crs_eq T 1 (by decide), crs_eq T 7 (by decide), crs_eq T 4 (by decide)]
  have e1 : ld T 0 + ld T 2 + ld T 3 - ld T 4 - ld T 6 - ld T 7 = 0 := by simp only [ld]; omega
  have e2 : ld T 1 + ld T 2 - ld T 3 - ld T 5 - ld T 6 + ld T 7 = 0 := by simp only [ld]; omega
  have z1 : ld T 5 = T 6 + T 3 - 2 * T 5 := rfl
  have z2 : ld T 6 = T 4 + T 5 - T 6 := rfl
  have z3 : ld T 3 = T 0 + T 5 - T 3 := rfl
  have z0 : ld T 0 = T 2 + T 3 - 2 * T 0 := rfl
  have z7 : ld T 7 = T 1 + T 4 - T 7 := rfl
  have z8 : ld T 1 = T 2 + T 7 - 2 * T 1 := rfl
  have z9 : ld T 2 = T 0 + T 1 - T 2 := rfl
  have z4 : ld T 4 = T 6 + T 7 - 2 * T 4 := rfl
  simp only [vx, vy] at hv
  generalize hx : -T 4 = X at hv
  generalize hy : T 4 - T 6 = Y at hv
  simp only [mz] at hv
  generalize ld T 0 = l0 at *
  generalize ld T 1 = l1 at *
  generalize ld T 2 = l2 at *
  generalize ld T 3 = l3 at *
  generalize ld T 4 = l4 at *
  generalize ld T 5 = l5 at *
  generalize ld T 6 = l6 at *
  generalize ld T 7 = l7 at *
  obtain ⟨h0, h1, h2, h3, h4, h5, h6, h7⟩ := hv
  have f1 : X * (l0 + l2 + l3 - l4 - l6 - l7) = 0 := by rw [e1, Int.mul_zero]
  have f2 : Y * (l1 + l2 - l3 - l5 - l6 + l7) = 0 := by rw [e2, Int.mul_zero]
  have p : ∀ s l : Int, 0 ≤ s → 0 ≤ l → 0 ≤ s * l := fun s l a b => Int.mul_nonneg a b
  have pp : ∀ s l : Int, 0 < s → 0 < l → 0 < s * l := fun s l a b => Int.mul_pos a b
  have p0 := p (T 0 - X) l0 (by omega) hl.1
  have p1 := p (T 1 - Y) l1 (by omega) hl.2.1
  have p2 := p (T 2 - (X + Y)) l2 (by omega) hl.2.2.1
  have p3 := p (T 3 - (X - Y)) l3 (by omega) hl.2.2.2.1
  have p4 := p (T 4 + X) l4 (by omega) hl.2.2.2.2.1
  have p5 := p (T 5 + Y) l5 (by omega) hl.2.2.2.2.2.1
  have p6 := p (T 6 + X + Y) l6 (by omega) hl.2.2.2.2.2.2.1
  have p7 := p (T 7 + X - Y) l7 (by omega) hl.2.2.2.2.2.2.2
  have some_pos : 0 < (T 0 - X) * l0 ∨ 0 < (T 2 - (X + Y)) * l2 ∨ 0 < (T 1 - Y) * l1 ∨ 0 < (T 3 - (X - Y)) * l3 := by
    by_cases g0 : 0 < l0
    · exact Or.inl (pp _ _ (by omega) g0)
    · by_cases g2 : 0 < l2
      · exact Or.inr (Or.inl (pp _ _ (by omega) g2))
      · have g1 : 0 < l1 := by omega
        have g3 : 0 < l3 := by omega
        by_cases g4 : 0 < T 3 - (X - Y)
        · exact Or.inr (Or.inr (Or.inr (pp _ _ g4 g3)))
        · exact Or.inr (Or.inr (Or.inl (pp _ _ (by omega) g1)))
  simp only [Int.mul_add, Int.mul_sub, Int.sub_mul, Int.add_mul] at f1 f2 p0 p1 p2 p3 p4 p5 p6 p7 some_pos
  omega
