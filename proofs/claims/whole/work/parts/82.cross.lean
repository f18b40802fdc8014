/-! ===== PURE: the line's crossings, the points that are kept ===== -/
def Scr (T : Nat → Int) (w : Nat) (C : Int) (i : Nat) : Prop := (mz w (vx T i) (vy T i) < C ∧ C < mz w (vx T (nxt i)) (vy T (nxt i))) ∨ (C < mz w (vx T i) (vy T i) ∧ mz w (vx T (nxt i)) (vy T (nxt i)) < C)
theorem cross_ex0 {e T : Nat → Int} (h : Fit e T) {C : Int} (hC : C % 2 = 0) : ∀ i, i < 8 → Scr T 0 C i → ∃ x y, mz i x y = T i ∧ mz 0 x y = C := by
  obtain ⟨v2, v3, v6, v7⟩ := fit_even h
  apply all8
  · intro hc; exfalso; simp only [Scr, mz, vx, vy, nxt] at hc; omega
  · intro _; exact ⟨C, T 1, by simp only [mz] <;> omega, by simp only [mz] <;> omega⟩
  · intro _; exact ⟨C, T 2 - C, by simp only [mz] <;> omega, by simp only [mz] <;> omega⟩
  · intro _; exact ⟨C, -T 3 + C, by simp only [mz] <;> omega, by simp only [mz] <;> omega⟩
  · intro hc; exfalso; simp only [Scr, mz, vx, vy, nxt] at hc; omega
  · intro _; exact ⟨C, -T 5, by simp only [mz] <;> omega, by simp only [mz] <;> omega⟩
  · intro _; exact ⟨C, -T 6 - C, by simp only [mz] <;> omega, by simp only [mz] <;> omega⟩
  · intro _; exact ⟨C, T 7 + C, by simp only [mz] <;> omega, by simp only [mz] <;> omega⟩
theorem cross_ex1 {e T : Nat → Int} (h : Fit e T) {C : Int} (hC : C % 2 = 0) : ∀ i, i < 8 → Scr T 1 C i → ∃ x y, mz i x y = T i ∧ mz 1 x y = C := by
  obtain ⟨v2, v3, v6, v7⟩ := fit_even h
  apply all8
  · intro _; exact ⟨T 0, C, by simp only [mz] <;> omega, by simp only [mz] <;> omega⟩
  · intro hc; exfalso; simp only [Scr, mz, vx, vy, nxt] at hc; omega
  · intro _; exact ⟨T 2 - C, C, by simp only [mz] <;> omega, by simp only [mz] <;> omega⟩
  · intro _; exact ⟨T 3 + C, C, by simp only [mz] <;> omega, by simp only [mz] <;> omega⟩
  · intro _; exact ⟨-T 4, C, by simp only [mz] <;> omega, by simp only [mz] <;> omega⟩
  · intro hc; exfalso; simp only [Scr, mz, vx, vy, nxt] at hc; omega
  · intro _; exact ⟨-T 6 - C, C, by simp only [mz] <;> omega, by simp only [mz] <;> omega⟩
  · intro _; exact ⟨-T 7 + C, C, by simp only [mz] <;> omega, by simp only [mz] <;> omega⟩
theorem cross_ex2 {e T : Nat → Int} (h : Fit e T) {C : Int} (hC : C % 2 = 0) : ∀ i, i < 8 → Scr T 2 C i → ∃ x y, mz i x y = T i ∧ mz 2 x y = C := by
  obtain ⟨v2, v3, v6, v7⟩ := fit_even h
  apply all8
  · intro _; exact ⟨T 0, -T 0 + C, by simp only [mz] <;> omega, by simp only [mz] <;> omega⟩
  · intro _; exact ⟨-T 1 + C, T 1, by simp only [mz] <;> omega, by simp only [mz] <;> omega⟩
  · intro hc; exfalso; simp only [Scr, mz, vx, vy, nxt] at hc; omega
  · intro _; exact ⟨(T 3 + C) / 2, (-T 3 + C) / 2, by simp only [mz] <;> omega, by simp only [mz] <;> omega⟩
  · intro _; exact ⟨-T 4, T 4 + C, by simp only [mz] <;> omega, by simp only [mz] <;> omega⟩
  · intro _; exact ⟨T 5 + C, -T 5, by simp only [mz] <;> omega, by simp only [mz] <;> omega⟩
  · intro hc; exfalso; simp only [Scr, mz, vx, vy, nxt] at hc; omega
  · intro _; exact ⟨(-T 7 + C) / 2, (T 7 + C) / 2, by simp only [mz] <;> omega, by simp only [mz] <;> omega⟩
theorem cross_ex3 {e T : Nat → Int} (h : Fit e T) {C : Int} (hC : C % 2 = 0) : ∀ i, i < 8 → Scr T 3 C i → ∃ x y, mz i x y = T i ∧ mz 3 x y = C := by
  obtain ⟨v2, v3, v6, v7⟩ := fit_even h
  apply all8
  · intro _; exact ⟨T 0, T 0 - C, by simp only [mz] <;> omega, by simp only [mz] <;> omega⟩
  · intro _; exact ⟨T 1 + C, T 1, by simp only [mz] <;> omega, by simp only [mz] <;> omega⟩
  · intro _; exact ⟨(T 2 + C) / 2, (T 2 - C) / 2, by simp only [mz] <;> omega, by simp only [mz] <;> omega⟩
  · intro hc; exfalso; simp only [Scr, mz, vx, vy, nxt] at hc; omega
  · intro _; exact ⟨-T 4, -T 4 - C, by simp only [mz] <;> omega, by simp only [mz] <;> omega⟩
  · intro _; exact ⟨-T 5 + C, -T 5, by simp only [mz] <;> omega, by simp only [mz] <;> omega⟩
  · intro _; exact ⟨(-T 6 + C) / 2, (-T 6 - C) / 2, by simp only [mz] <;> omega, by simp only [mz] <;> omega⟩
  · intro hc; exfalso; simp only [Scr, mz, vx, vy, nxt] at hc; omega
theorem cross_ex4 {e T : Nat → Int} (h : Fit e T) {C : Int} (hC : C % 2 = 0) : ∀ i, i < 8 → Scr T 4 C i → ∃ x y, mz i x y = T i ∧ mz 4 x y = C := by
  obtain ⟨v2, v3, v6, v7⟩ := fit_even h
  apply all8
  · intro hc; exfalso; simp only [Scr, mz, vx, vy, nxt] at hc; omega
  · intro _; exact ⟨-C, T 1, by simp only [mz] <;> omega, by simp only [mz] <;> omega⟩
  · intro _; exact ⟨-C, T 2 + C, by simp only [mz] <;> omega, by simp only [mz] <;> omega⟩
  · intro _; exact ⟨-C, -T 3 - C, by simp only [mz] <;> omega, by simp only [mz] <;> omega⟩
  · intro hc; exfalso; simp only [Scr, mz, vx, vy, nxt] at hc; omega
  · intro _; exact ⟨-C, -T 5, by simp only [mz] <;> omega, by simp only [mz] <;> omega⟩
  · intro _; exact ⟨-C, -T 6 + C, by simp only [mz] <;> omega, by simp only [mz] <;> omega⟩
  · intro _; exact ⟨-C, T 7 - C, by simp only [mz] <;> omega, by simp only [mz] <;> omega⟩
theorem cross_ex5 {e T : Nat → Int} (h : Fit e T) {C : Int} (hC : C % 2 = 0) : ∀ i, i < 8 → Scr T 5 C i → ∃ x y, mz i x y = T i ∧ mz 5 x y = C := by
  obtain ⟨v2, v3, v6, v7⟩ := fit_even h
  apply all8
  · intro _; exact ⟨T 0, -C, by simp only [mz] <;> omega, by simp only [mz] <;> omega⟩
  · intro hc; exfalso; simp only [Scr, mz, vx, vy, nxt] at hc; omega
  · intro _; exact ⟨T 2 + C, -C, by simp only [mz] <;> omega, by simp only [mz] <;> omega⟩
  · intro _; exact ⟨T 3 - C, -C, by simp only [mz] <;> omega, by simp only [mz] <;> omega⟩
  · intro _; exact ⟨-T 4, -C, by simp only [mz] <;> omega, by simp only [mz] <;> omega⟩
  · intro hc; exfalso; simp only [Scr, mz, vx, vy, nxt] at hc; omega
  · intro _; exact ⟨-T 6 + C, -C, by simp only [mz] <;> omega, by simp only [mz] <;> omega⟩
  · intro _; exact ⟨-T 7 - C, -C, by simp only [mz] <;> omega, by simp only [mz] <;> omega⟩
theorem cross_ex6 {e T : Nat → Int} (h : Fit e T) {C : Int} (hC : C % 2 = 0) : ∀ i, i < 8 → Scr T 6 C i → ∃ x y, mz i x y = T i ∧ mz 6 x y = C := by
  obtain ⟨v2, v3, v6, v7⟩ := fit_even h
  apply all8
  · intro _; exact ⟨T 0, -T 0 - C, by simp only [mz] <;> omega, by simp only [mz] <;> omega⟩
  · intro _; exact ⟨-T 1 - C, T 1, by simp only [mz] <;> omega, by simp only [mz] <;> omega⟩
  · intro hc; exfalso; simp only [Scr, mz, vx, vy, nxt] at hc; omega
  · intro _; exact ⟨(T 3 - C) / 2, (-T 3 - C) / 2, by simp only [mz] <;> omega, by simp only [mz] <;> omega⟩
  · intro _; exact ⟨-T 4, T 4 - C, by simp only [mz] <;> omega, by simp only [mz] <;> omega⟩
  · intro _; exact ⟨T 5 - C, -T 5, by simp only [mz] <;> omega, by simp only [mz] <;> omega⟩
  · intro hc; exfalso; simp only [Scr, mz, vx, vy, nxt] at hc; omega
  · intro _; exact ⟨(-T 7 - C) / 2, (T 7 - C) / 2, by simp only [mz] <;> omega, by simp only [mz] <;> omega⟩
theorem cross_ex7 {e T : Nat → Int} (h : Fit e T) {C : Int} (hC : C % 2 = 0) : ∀ i, i < 8 → Scr T 7 C i → ∃ x y, mz i x y = T i ∧ mz 7 x y = C := by
  obtain ⟨v2, v3, v6, v7⟩ := fit_even h
  apply all8
  · intro _; exact ⟨T 0, T 0 + C, by simp only [mz] <;> omega, by simp only [mz] <;> omega⟩
  · intro _; exact ⟨T 1 - C, T 1, by simp only [mz] <;> omega, by simp only [mz] <;> omega⟩
  · intro _; exact ⟨(T 2 - C) / 2, (T 2 + C) / 2, by simp only [mz] <;> omega, by simp only [mz] <;> omega⟩
  · intro hc; exfalso; simp only [Scr, mz, vx, vy, nxt] at hc; omega
  · intro _; exact ⟨-T 4, -T 4 + C, by simp only [mz] <;> omega, by simp only [mz] <;> omega⟩
  · intro _; exact ⟨-T 5 - C, -T 5, by simp only [mz] <;> omega, by simp only [mz] <;> omega⟩
  · intro _; exact ⟨(-T 6 - C) / 2, (-T 6 + C) / 2, by simp only [mz] <;> omega, by simp only [mz] <;> omega⟩
  · intro hc; exfalso; simp only [Scr, mz, vx, vy, nxt] at hc; omega
theorem cross_ex {e T : Nat → Int} (h : Fit e T) {C : Int} (hC : C % 2 = 0) : ∀ w, w < 8 → ∀ i, i < 8 → Scr T w C i → ∃ x y, mz i x y = T i ∧ mz w x y = C := all8 (cross_ex0 h hC) (cross_ex1 h hC) (cross_ex2 h hC) (cross_ex3 h hC) (cross_ex4 h hC) (cross_ex5 h hC) (cross_ex6 h hC) (cross_ex7 h hC)
theorem cross_un {T : Nat → Int} {C x y u v : Int} : ∀ w, w < 8 → ∀ i, i < 8 → Scr T w C i → mz i x y = T i → mz w x y = C → mz i u v = T i → mz w u v = C → x = u ∧ y = v := by
  apply all8 <;> apply all8 <;> intro h1 h2 h3 h4 h5 <;> simp only [Scr, mz, vx, vy, nxt] at h1 h2 h3 h4 h5 <;> omega
theorem par_i {a b c d : Int} : ∀ i, i < 8 → mz i a b = 0 → mz i c d = 0 → c * b = a * d := by
  apply all8 <;> intro h1 h2 <;> simp only [mz] at h1 h2
  · rw [h1, h2, Int.zero_mul, Int.zero_mul]
  · rw [h1, h2, Int.mul_zero, Int.mul_zero]
  · have e1 : b = -a := by omega
    have e2 : d = -c := by omega
    rw [e1, e2, Int.mul_neg, Int.mul_neg, Int.mul_comm]
  · have e1 : b = a := by omega
    have e2 : d = c := by omega
    rw [e1, e2, Int.mul_comm]
  · have e1 : a = 0 := by omega
    have e2 : c = 0 := by omega
    rw [e1, e2, Int.zero_mul, Int.zero_mul]
  · have e1 : b = 0 := by omega
    have e2 : d = 0 := by omega
    rw [e1, e2, Int.mul_zero, Int.mul_zero]
  · have e1 : b = -a := by omega
    have e2 : d = -c := by omega
    rw [e1, e2, Int.mul_neg, Int.mul_neg, Int.mul_comm]
  · have e1 : b = a := by omega
    have e2 : d = c := by omega
    rw [e1, e2, Int.mul_comm]
theorem mz_sub (x y u v : Int) : ∀ k, k < 8 → mz k (x - u) (y - v) = mz k x y - mz k u v := by
  apply all8 <;> simp only [mz] <;> omega
/-- the division comes out even -/
theorem cross_at {T : Nat → Int} {C x y : Int} {w i : Nat} (hw : w < 8) (hi : i < 8) (hs : Scr T w C i) (h1 : mz i x y = T i) (h2 : mz w x y = C) : vx T i + ((vx T (nxt i) - vx T i) * (mz w (vx T i) (vy T i) - C)).tdiv ((mz w (vx T i) (vy T i) - C) - (mz w (vx T (nxt i)) (vy T (nxt i)) - C)) = x ∧ vy T i + ((vy T (nxt i) - vy T i) * (mz w (vx T i) (vy T i) - C)).tdiv ((mz w (vx T i) (vy T i) - C) - (mz w (vx T (nxt i)) (vy T (nxt i)) - C)) = y := by
  obtain ⟨o1, o2⟩ := v_on T i hi
  have ne : (mz w (vx T i) (vy T i) - C) - (mz w (vx T (nxt i)) (vy T (nxt i)) - C) ≠ 0 := by
    unfold Scr at hs
    omega
  have p0 : (vx T (nxt i) - vx T i) * (y - vy T i) = (x - vx T i) * (vy T (nxt i) - vy T i) := by
    refine par_i i hi ?_ ?_
    · rw [mz_sub _ _ _ _ i hi]; omega
    · rw [mz_sub _ _ _ _ i hi]; omega
  have a1 : mz w (vx T i) (vy T i) - C = -(nz w * (x - vx T i) + wz w * (y - vy T i)) := by
    rw [← mz_eq _ _ w hw, mz_sub _ _ _ _ w hw]; omega
  have a2 : (mz w (vx T i) (vy T i) - C) - (mz w (vx T (nxt i)) (vy T (nxt i)) - C) = -(nz w * (vx T (nxt i) - vx T i) + wz w * (vy T (nxt i) - vy T i)) := by
    rw [← mz_eq _ _ w hw, mz_sub _ _ _ _ w hw]; omega
  generalize hX : vx T (nxt i) - vx T i = X at p0 a2 ⊢
  generalize hY : vy T (nxt i) - vy T i = Y at p0 a2 ⊢
  generalize ha : x - vx T i = a at p0 a1
  generalize hb : y - vy T i = b at p0 a1
  generalize (mz w (vx T i) (vy T i) - C) - (mz w (vx T (nxt i)) (vy T (nxt i)) - C) = D at a2 ne ⊢
  have m1 : X * (mz w (vx T i) (vy T i) - C) = a * D := by
    rw [a1, a2, Int.mul_neg, Int.mul_neg, Int.mul_add, Int.mul_add]
    have q1 : X * (nz w * a) = a * (nz w * X) := by rw [Int.mul_left_comm, Int.mul_left_comm a, Int.mul_comm X]
    have q2 : X * (wz w * b) = a * (wz w * Y) := by rw [Int.mul_left_comm, p0, Int.mul_left_comm a]
    rw [q1, q2]
  have m2 : Y * (mz w (vx T i) (vy T i) - C) = b * D := by
    rw [a1, a2, Int.mul_neg, Int.mul_neg, Int.mul_add, Int.mul_add]
    have q1 : Y * (nz w * a) = b * (nz w * X) := by rw [Int.mul_left_comm, Int.mul_comm Y a, ← p0, Int.mul_left_comm b, Int.mul_comm b X]
    have q2 : Y * (wz w * b) = b * (wz w * Y) := by rw [Int.mul_left_comm, Int.mul_left_comm b, Int.mul_comm Y]
    rw [q1, q2]
  rw [m1, m2, Int.mul_tdiv_cancel _ ne, Int.mul_tdiv_cancel _ ne]
  omega
/-- every corner stands in the row -/
theorem cor_row {e T : Nat → Int} (h : Fit e T) : ∀ i, i < 8 → ∃ j, j < (pl T).length ∧ vx T (fd T j) = vx T i ∧ vy T (fd T j) = vy T i := by
  intro i hi
  have n1 := nxt_lt i hi
  have n2 := nxt_lt _ n1
  have v0 := (v_ld T i hi)
  have v1 := (v_ld T _ n1)
  have hn := fit_no3 h
  have h0 := h.1 i hi
  have h1 := h.1 _ n1
  have h2 := h.1 _ n2
  have key : ∀ i, i < 8 → 0 < ld T i ∨ 0 < ld T (nxt i) ∨ 0 < ld T (nxt (nxt i)) := by
    apply all8 <;> simp only [nxt] <;> omega
  by_cases q0 : ld T i = 0
  · have e0 := v0.mpr q0
    by_cases q1 : ld T (nxt i) = 0
    · have e1 := v1.mpr q1
      obtain ⟨j, j1, j2⟩ := pl_on n2 (show ld T (nxt (nxt i)) ≠ 0 by have := key i hi; omega)
      exact ⟨j, j1, by rw [j2, ← e1.1, ← e0.1], by rw [j2, ← e1.2, ← e0.2]⟩
    · obtain ⟨j, j1, j2⟩ := pl_on n1 q1
      exact ⟨j, j1, by rw [j2, ← e0.1], by rw [j2, ← e0.2]⟩
  · obtain ⟨j, j1, j2⟩ := pl_on hi q0
    exact ⟨j, j1, by rw [j2], by rw [j2]⟩
/-- the greatest measures of what was kept of the first t corners -/
def Iu (T : Nat → Int) (w : Nat) (C : Int) (t : Nat) (r : Nat → Int) : Prop := (∀ j, j < t → mz w (vx T (fd T j)) (vy T (fd T j)) ≤ C → ∀ k, k < 8 → mz k (vx T (fd T j)) (vy T (fd T j)) ≤ r k) ∧ (∀ j, j < t → Scr T w C (fd T j) → ∀ x y, mz (fd T j) x y = T (fd T j) → mz w x y = C → ∀ k, k < 8 → mz k x y ≤ r k) ∧ ∀ k, k < 8 → r k = -1000000 ∨ ∃ x y, Kp T w C x y ∧ r k = mz k x y
theorem mx_le {r : Nat → Int} {x y : Int} {k : Nat} : r k ≤ mx r x y k ∧ mz k x y ≤ mx r x y k ∧ (mx r x y k = r k ∨ mx r x y k = mz k x y) := by
  unfold mx
  omega
theorem Iu.step {T : Nat → Int} {w : Nat} {C : Int} {t : Nat} {r r1 r2 : Nat → Int} (hw : w < 8) (ht : t < (pl T).length) (h : Iu T w C t r) (h1 : (mz w (vx T (fd T t)) (vy T (fd T t)) ≤ C ∧ r1 = mx r (vx T (fd T t)) (vy T (fd T t))) ∨ (¬ mz w (vx T (fd T t)) (vy T (fd T t)) ≤ C ∧ r1 = r)) (h2 : (Scr T w C (fd T t) ∧ ∃ x y, mz (fd T t) x y = T (fd T t) ∧ mz w x y = C ∧ r2 = mx r1 x y) ∨ (¬ Scr T w C (fd T t) ∧ r2 = r1)) : Iu T w C (t + 1) r2 := by
  obtain ⟨a1, a2, a3⟩ := h
  have hd := fd_lt ht
  have l1 : ∀ k, r k ≤ r1 k := by
    intro k
    rcases h1 with ⟨-, rfl⟩ | ⟨-, rfl⟩
    · exact mx_le.1
    · exact Int.le_refl _
  have l2 : ∀ k, r1 k ≤ r2 k := by
    intro k
    rcases h2 with ⟨-, x, y, -, -, rfl⟩ | ⟨-, rfl⟩
    · exact mx_le.1
    · exact Int.le_refl _
  refine ⟨fun j hj hc k hk => ?_, fun j hj hc x y e1 e2 k hk => ?_, fun k hk => ?_⟩
  · by_cases q : j = t
    · subst q
      rcases h1 with ⟨-, rfl⟩ | ⟨hn, -⟩
      · exact Int.le_trans mx_le.2.1 (l2 k)
      · exact absurd hc hn
    · exact Int.le_trans (a1 j (by omega) hc k hk) (Int.le_trans (l1 k) (l2 k))
  · by_cases q : j = t
    · subst q
      rcases h2 with ⟨-, x', y', e3, e4, rfl⟩ | ⟨hn, -⟩
      · have := cross_un w hw _ hd hc e1 e2 e3 e4
        rw [this.1, this.2]
        exact mx_le.2.1
      · exact absurd hc hn
    · exact Int.le_trans (a2 j (by omega) hc x y e1 e2 k hk) (Int.le_trans (l1 k) (l2 k))
  · have b1 : r1 k = -1000000 ∨ ∃ x y, Kp T w C x y ∧ r1 k = mz k x y := by
      rcases h1 with ⟨hm, rfl⟩ | ⟨-, rfl⟩
      · rcases (mx_le (r := r) (x := vx T (fd T t)) (y := vy T (fd T t)) (k := k)).2.2 with q | q
        · rw [q]; exact a3 k hk
        · exact Or.inr ⟨_, _, Or.inl ⟨fd T t, hd, rfl, rfl, hm⟩, q⟩
      · exact a3 k hk
    rcases h2 with ⟨hs, x, y, e1, e2, rfl⟩ | ⟨-, rfl⟩
    · rcases (mx_le (r := r1) (x := x) (y := y) (k := k)).2.2 with q | q
      · rw [q]; exact b1
      · exact Or.inr ⟨x, y, Or.inr ⟨fd T t, hd, e1, e2, hs⟩, q⟩
    · exact b1
/-- all corners seen: the reaches of what is kept -/
theorem Iu.fin {e T : Nat → Int} (hF : Fit e T) {w : Nat} (hw : w < 8) {C : Int} (hC : C % 2 = 0) (h1 : -T (opp w) < C) (h2 : C < T w) (hb : ∀ k, k < 8 → -200000 ≤ cutT T w C k) {r : Nat → Int} (h : Iu T w C (pl T).length r) : ∀ k, k < 8 → r k = cutT T w C k := by
  intro k hk
  obtain ⟨a1, a2, a3⟩ := h
  obtain ⟨x, y, kp, ek⟩ := cut_att hF hC w hw h1 h2 k hk
  have lo : cutT T w C k ≤ r k := by
    rw [← ek]
    rcases kp with ⟨i, hi, rfl, rfl, hm⟩ | ⟨i, hi, e1, e2, hs⟩
    · obtain ⟨j, j1, j2, j3⟩ := cor_row hF i hi
      rw [← j2, ← j3] at hm ⊢
      exact a1 j j1 hm k hk
    · have hl : ld T i ≠ 0 := by
        intro z
        have := (v_ld T i hi).mpr z
        rw [← this.1, ← this.2] at hs
        omega
      obtain ⟨j, j1, j2⟩ := pl_on hi hl
      rw [← j2] at e1 hs
      exact a2 j j1 hs x y e1 e2 k hk
  rcases a3 k hk with q | ⟨u, v, kp2, q⟩
  · have := hb k hk
    omega
  · obtain ⟨i1, i2⟩ := kp_in hF hw kp2
    have := cut_le hF hC i1 w hw i2 k hk
    omega

