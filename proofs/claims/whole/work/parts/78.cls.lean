/-! ===== PURE: what the class reads off a shape ===== -/
theorem p_following {σ : SS} {p : Nat} {R : Nat → Int} (h : SH σ p R) {j : Nat} (hj : j < (pl R).length) : f_X3_following p (nI j) σ = some (nI (fol (pl R).length j), σ) := by
  have h8 := pl_len R
  unfold f_X3_following fol
  rw [h.2.1, nI_1]
  by_cases q : j + 1 < (pl R).length
  · rw [if_neg (nI_ge q (by omega)), if_pos q]
  · rw [if_pos (nI_le (by omega) (by omega)), if_neg q]
    rfl
theorem area_sum (R : Nat → Int) : sumN (fun j => crs R (fd R j)) (pl R).length = area8 R := by
  have h := sum_sel (p := sp R) (g := fun i => crs R (rd i)) (n := 8) (fun i hi hp => by
    have h0 : ld R (rd i) = 0 := Classical.not_not.mp (of_decide_eq_false hp)
    show crs R (rd i) = 0
    rw [crs_eq R _ (rd_lt i hi), h0, Int.mul_zero])
  have e : sumN (fun i => crs R (rd i)) 8 = area8 R := by
    simp only [sumN, rd, area8]
    omega
  rw [← e]
  exact h
theorem eight_loop {σ : SS} {p : Nat} {R : Nat → Int} (h : SH σ p R) : ∀ (s t fuel : Nat), t + s = (pl R).length → s < fuel → f_X3_eightfold_4 fuel p (iz (sumN (fun j => crs R (fd R j)) t)) (nI t) σ = some (iz (sumN (fun j => crs R (fd R j)) (pl R).length), σ) := by
  have h8 := pl_len R
  intro s
  induction s with
  | zero =>
    intro t fuel ht hf
    obtain ⟨f, rfl⟩ : ∃ f, fuel = f + 1 := ⟨fuel - 1, by omega⟩
    have : t = (pl R).length := by omega
    rw [f_X3_eightfold_4, h.2.1, if_pos (nI_le (by omega) (by omega)), this]
  | succ s ih =>
    intro t fuel ht hf
    obtain ⟨f, rfl⟩ : ∃ f, fuel = f + 1 := ⟨fuel - 1, by omega⟩
    have htl : t < (pl R).length := by omega
    have hfl := fol_lt htl
    obtain ⟨g1, g2⟩ := n8 (show t < 8 by omega)
    obtain ⟨g3, g4⟩ := n8 (show fol (pl R).length t < 8 by omega)
    obtain ⟨a1, a2, -⟩ := h.2.2 t htl
    obtain ⟨b1, b2, -⟩ := h.2.2 _ hfl
    obtain ⟨c1, c2⟩ := pl_fol htl
    rw [f_X3_eightfold_4, h.2.1, if_neg (nI_ge htl (by omega)), p_following h htl, cal_some, chk_p g1, chk_p g3, chk_p g3, chk_p g1, g2, g4, a1, a2, b1, b2, lt_eq, lt_eq, nI_1, ← c1, ← c2, iz_mul, iz_mul, iz_sub, iz_add]
    have e : sumN (fun j => crs R (fd R j)) t + (vx R (fd R t) * vy R (nxt (fd R t)) - vx R (nxt (fd R t)) * vy R (fd R t)) = sumN (fun j => crs R (fd R j)) (t + 1) := by
      show _ = sumN (fun j => crs R (fd R j)) t + crs R (fd R t)
      unfold crs
      rw [Int.mul_comm (vx R (nxt (fd R t)))]
    rw [e]
    exact ih (t + 1) f (by omega) (by omega)
theorem p_eightfold {σ : SS} {p : Nat} {R : Nat → Int} (h : SH σ p R) : f_X3_eightfold p σ = some (iz (area8 R), σ) := by
  have h8 := pl_len R
  have := eight_loop h (pl R).length 0 FU (by omega) (by show (pl R).length < 5000; omega)
  rw [area_sum] at this
  rw [f_X3_eightfold]
  exact this
/-- sides that slant -/
def slN (R : Nat → Int) (t : Nat) : Nat := (List.range t).countP (fun j => decide (2 ≤ fd R j % 4))
theorem slN_s (R : Nat → Int) (t : Nat) : slN R (t + 1) = slN R t + (if 2 ≤ fd R t % 4 then 1 else 0) := by
  unfold slN
  rw [List.range_succ, List.countP_append]
  by_cases q : 2 ≤ fd R t % 4 <;> simp [q]
theorem slN_le (R : Nat → Int) : ∀ t, slN R t ≤ t := by
  intro t
  induction t with
  | zero => exact Nat.le_refl _
  | succ t ih =>
    rw [slN_s]
    split <;> omega
theorem rem4 {d : Nat} (h : d < 8) : nI d - nI d / (4 : Int32) * (4 : Int32) = nI (d % 4) := pk_rem (d := 4) (by omega) (by decide) (by decide)
theorem slant_loop {σ : SS} {p : Nat} {R : Nat → Int} (h : SH σ p R) : ∀ (s t fuel : Nat), t + s = (pl R).length → s < fuel → f_X3_slantedSides_4 fuel p (nI (slN R t)) (nI t) σ = some (nI (slN R (pl R).length), σ) := by
  have h8 := pl_len R
  intro s
  induction s with
  | zero =>
    intro t fuel ht hf
    obtain ⟨f, rfl⟩ : ∃ f, fuel = f + 1 := ⟨fuel - 1, by omega⟩
    have : t = (pl R).length := by omega
    rw [f_X3_slantedSides_4, h.2.1, if_pos (nI_le (by omega) (by omega)), this]
  | succ s ih =>
    intro t fuel ht hf
    obtain ⟨f, rfl⟩ : ∃ f, fuel = f + 1 := ⟨fuel - 1, by omega⟩
    have htl : t < (pl R).length := by omega
    obtain ⟨g1, g2⟩ := n8 (show t < 8 by omega)
    obtain ⟨-, -, a3⟩ := h.2.2 t htl
    have hd := fd_lt htl
    have i := ih (t + 1) f (by omega) (by omega)
    rw [slN_s] at i
    rw [f_X3_slantedSides_4, h.2.1, if_neg (nI_ge htl (by omega)), chk_p g1, g2, a3, rem4 hd]
    by_cases q : 2 ≤ fd R t % 4
    · rw [if_neg (show ¬ nI (fd R t % 4) < (2 : Int32) from nI_nlt (b := 2) q (by omega)), lt_eq, f_X3_slantedSides_27, lt_eq, nI_1, nI_1]
      rw [if_pos q] at i
      exact i
    · rw [if_pos (show nI (fd R t % 4) < (2 : Int32) from nI_lt (b := 2) (by omega) (by decide)), f_X3_slantedSides_27, lt_eq, nI_1]
      rw [if_neg q] at i
      exact i
theorem p_slanted {σ : SS} {p : Nat} {R : Nat → Int} (h : SH σ p R) : f_X3_slantedSides p σ = some (nI (slN R (pl R).length), σ) := by
  have h8 := pl_len R
  have := slant_loop h (pl R).length 0 FU (by omega) (by show (pl R).length < 5000; omega)
  rw [f_X3_slantedSides]
  exact this
theorem p_opposite {k : Nat} (hk : k < 8) (σ : SS) : f_X7_opposite (nI k) σ = some (nI (opp k), σ) := by
  have key : ∀ k, k < 8 → (nI k + (4 : Int32)) - (nI k + (4 : Int32)) / (8 : Int32) * (8 : Int32) = nI (opp k) := by decide +kernel
  rw [f_X7_opposite, key k hk]
def kd4 (R : Nat → Int) : Nat := if slN R 4 = 0 then 0 else if fd R 2 = opp (fd R 0) ∧ fd R 3 = opp (fd R 1) then 1 else 3
def kd (R : Nat → Int) : Nat := if (pl R).length = 3 then 2 else if (pl R).length = 4 then kd4 R else if (pl R).length = 5 then 4 else if (pl R).length = 6 then 4 else 5
theorem kd_lt (R : Nat → Int) : kd R < 6 := by
  unfold kd kd4
  repeat' split
  all_goals omega
theorem p_kind {σ : SS} {p : Nat} {R : Nat → Int} (h : SH σ p R) : f_X3_kind p σ = some (nI (kd R), σ) := by
  have h8 := pl_len R
  have c : ∀ m : Nat, m < 100 → (nI (pl R).length = nI m ↔ (pl R).length = m) := fun m hm => nI_eq (by omega) (by omega)
  have c3 : nI (pl R).length = (3 : Int32) ↔ (pl R).length = 3 := c 3 (by decide)
  have c4 : nI (pl R).length = (4 : Int32) ↔ (pl R).length = 4 := c 4 (by decide)
  have c5 : nI (pl R).length = (5 : Int32) ↔ (pl R).length = 5 := c 5 (by decide)
  have c6 : nI (pl R).length = (6 : Int32) ↔ (pl R).length = 6 := c 6 (by decide)
  unfold f_X3_kind kd
  rw [h.2.1]
  by_cases q3 : (pl R).length = 3
  · rw [if_pos (c3.mpr q3), if_pos q3]
    rfl
  · rw [if_neg (fun z => q3 (c3.mp z)), if_neg q3]
    by_cases q4 : (pl R).length = 4
    · rw [if_pos (c4.mpr q4), if_pos q4]
      obtain ⟨i2, j2⟩ := n8 (show 2 < 8 by decide)
      obtain ⟨i0, j0⟩ := n8 (show 0 < 8 by decide)
      obtain ⟨i3, j3⟩ := n8 (show 3 < 8 by decide)
      obtain ⟨i1, j1⟩ := n8 (show 1 < 8 by decide)
      have e0 := (h.2.2 0 (by omega)).2.2
      have e1 := (h.2.2 1 (by omega)).2.2
      have e2 := (h.2.2 2 (by omega)).2.2
      have e3 := (h.2.2 3 (by omega)).2.2
      have d0 := fd_lt (T := R) (j := 0) (by omega)
      have d1 := fd_lt (T := R) (j := 1) (by omega)
      have d2 := fd_lt (T := R) (j := 2) (by omega)
      have d3 := fd_lt (T := R) (j := 3) (by omega)
      have o0 := opp_lt _ d0
      have o1 := opp_lt _ d1
      have z0 : nI (slN R 4) = 0 ↔ slN R 4 = 0 := nI_eq (b := 0) (by have := slN_le R 4; omega) (by decide)
      have z2 : nI (fd R 2) = nI (opp (fd R 0)) ↔ fd R 2 = opp (fd R 0) := nI_eq (by omega) (by omega)
      have z3 : nI (fd R 3) = nI (opp (fd R 1)) ↔ fd R 3 = opp (fd R 1) := nI_eq (by omega) (by omega)
      unfold f_X3_kindOfFour
      rw [p_slanted h, cal_some, q4]
      unfold kd4
      by_cases qs : slN R 4 = 0
      · rw [if_pos (z0.mpr qs), if_pos qs, cal_some]
        rfl
      · rw [if_neg (fun z => qs (z0.mp z)), if_neg qs, chk_p (show inr (2 : Int32) 8 from i2), chk_p (show inr (0 : Int32) 8 from i0), show ix (2 : Int32) = 2 from j2, show ix (0 : Int32) = 0 from j0, e0, e2, p_opposite d0, cal_some]
        by_cases q2 : fd R 2 = opp (fd R 0)
        · rw [if_pos (z2.mpr q2), chk_p (show inr (3 : Int32) 8 from i3), chk_p (show inr (1 : Int32) 8 from i1), show ix (3 : Int32) = 3 from j3, show ix (1 : Int32) = 1 from j1, e1, e3, p_opposite d1, cal_some]
          by_cases qq : fd R 3 = opp (fd R 1)
          · rw [if_pos (z3.mpr qq), if_pos ⟨q2, qq⟩, f_X3_kindOfFour_50, if_neg (by decide), cal_some]
            rfl
          · rw [if_neg (fun z => qq (z3.mp z)), if_neg (fun z => qq z.2), f_X3_kindOfFour_49, f_X3_kindOfFour_50, if_pos rfl, cal_some]
            rfl
        · rw [if_neg (fun z => q2 (z2.mp z)), if_neg (fun z => q2 z.1), f_X3_kindOfFour_49, f_X3_kindOfFour_50, if_pos rfl, cal_some]
          rfl
    · rw [if_neg (fun z => q4 (c4.mp z)), if_neg q4]
      by_cases q5 : (pl R).length = 5
      · rw [if_pos (c5.mpr q5), if_pos q5]
        rfl
      · rw [if_neg (fun z => q5 (c5.mp z)), if_neg q5]
        by_cases q6 : (pl R).length = 6
        · rw [if_pos (c6.mpr q6), if_pos q6]
          rfl
        · rw [if_neg (fun z => q6 (c6.mp z)), if_neg q6]
          rfl
