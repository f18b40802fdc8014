/-! ===== PURE: every corner is where two of the bounds' lines cross ===== -/
def nz (k : Nat) : Int := match k with
  | 0 => 1
  | 1 => 0
  | 2 => 1
  | 3 => 1
  | 4 => -1
  | 5 => 0
  | 6 => -1
  | _ => -1
def wz (k : Nat) : Int := match k with
  | 0 => 0
  | 1 => 1
  | 2 => 1
  | 3 => -1
  | 4 => 0
  | 5 => -1
  | 6 => -1
  | _ => 1
def dz (k l : Nat) : Int := nz k * wz l - wz k * nz l
theorem mz_eq (x y : Int) : ∀ k, k < 8 → mz k x y = nz k * x + wz k * y := by
  apply all8 <;> simp only [mz, nz, wz] <;> omega
def Cand (e : Nat → Int) (x y : Int) : Prop := ∃ k l, l < k ∧ k < 8 ∧ dz k l ≠ 0 ∧ mz k x y = 2 * e k ∧ mz l x y = 2 * e l
theorem cand_mk {e : Nat → Int} {x y : Int} (k l : Nat) (hk : k < 8) (hl : l < 8) (hd : dz k l ≠ 0) (h1 : mz k x y = 2 * e k) (h2 : mz l x y = 2 * e l) : Cand e x y := by
  have hd2 : dz l k = -dz k l := by unfold dz; rw [Int.mul_comm (nz l), Int.mul_comm (wz l)]; omega
  rcases Nat.lt_trichotomy l k with h | h | h
  · exact ⟨k, l, h, hk, hd, h1, h2⟩
  · subst h
    exfalso
    omega
  · exact ⟨l, k, h, hl, by omega, h2, h1⟩
theorem cand_x {e : Nat → Int} {x y : Int} {k l : Nat} (hk : k < 8) (hl : l < 8) (hd : dz k l ≠ 0) (h1 : mz k x y = 2 * e k) (h2 : mz l x y = 2 * e l) : (2 * (e k * wz l - e l * wz k)).tdiv (dz k l) = x ∧ (2 * (nz k * e l - nz l * e k)).tdiv (dz k l) = y := by
  rw [mz_eq x y k hk] at h1
  rw [mz_eq x y l hl] at h2
  constructor
  · have : 2 * (e k * wz l - e l * wz k) = x * dz k l := by
      have e1 : 2 * (e k * wz l - e l * wz k) = (2 * e k) * wz l - (2 * e l) * wz k := by
        rw [Int.mul_sub, Int.mul_assoc, Int.mul_assoc]
      rw [e1, ← h1, ← h2]
      unfold dz
      simp only [Int.add_mul, Int.mul_sub]
      have q1 : wz k * y * wz l = wz l * y * wz k := by rw [Int.mul_right_comm, Int.mul_right_comm (wz l), Int.mul_comm (wz k)]
      have q2 : nz k * x * wz l = x * (nz k * wz l) := by rw [Int.mul_comm (nz k), Int.mul_assoc]
      have q3 : nz l * x * wz k = x * (wz k * nz l) := by rw [Int.mul_comm (nz l), Int.mul_assoc, Int.mul_comm (nz l)]
      omega
    rw [this]
    exact Int.mul_tdiv_cancel _ hd
  · have : 2 * (nz k * e l - nz l * e k) = y * dz k l := by
      have e1 : 2 * (nz k * e l - nz l * e k) = nz k * (2 * e l) - nz l * (2 * e k) := by
        rw [Int.mul_sub, Int.mul_left_comm, Int.mul_left_comm 2]
      rw [e1, ← h1, ← h2]
      unfold dz
      simp only [Int.mul_add, Int.mul_sub]
      have q1 : nz k * (nz l * x) = nz l * (nz k * x) := Int.mul_left_comm _ _ _
      have q2 : nz k * (wz l * y) = y * (nz k * wz l) := by rw [← Int.mul_assoc, Int.mul_comm]
      have q3 : nz l * (wz k * y) = y * (wz k * nz l) := by rw [← Int.mul_assoc, Int.mul_comm, Int.mul_comm (nz l)]
      omega
    rw [this]
    exact Int.mul_tdiv_cancel _ hd

theorem fit_cand0 {e T : Nat → Int} (h : Fit e T) : Cand e (vx T 0) (vy T 0) := by
  obtain ⟨a, w, b, d⟩ := h
  have a := of8 a
  have d := of8 d
  clear b
  simp only [ld] at a d
  obtain ⟨a0, a1, a2, a3, a4, a5, a6, a7⟩ := a
  obtain ⟨d0, d1, d2, d3, d4, d5, d6, d7⟩ := d
  simp only [vx, vy]
  rcases d0 with c0 | c0
  · rcases d3 with c1 | c1
    · exact cand_mk 0 3 (by decide) (by decide) (by decide) (by simp only [mz]; omega) (by simp only [mz]; omega)
    · rcases d5 with c2 | c2
      · exact cand_mk 0 5 (by decide) (by decide) (by decide) (by simp only [mz]; omega) (by simp only [mz]; omega)
      · rcases d6 with c3 | c3
        · exact cand_mk 0 6 (by decide) (by decide) (by decide) (by simp only [mz]; omega) (by simp only [mz]; omega)
        · exfalso; omega
  · rcases d2 with c1 | c1
    · rcases d3 with c2 | c2
      · exact cand_mk 2 3 (by decide) (by decide) (by decide) (by simp only [mz]; omega) (by simp only [mz]; omega)
      · rcases d5 with c3 | c3
        · exact cand_mk 2 5 (by decide) (by decide) (by decide) (by simp only [mz]; omega) (by simp only [mz]; omega)
        · exfalso; omega
    · rcases d1 with c2 | c2
      · rcases d3 with c3 | c3
        · exact cand_mk 1 3 (by decide) (by decide) (by decide) (by simp only [mz]; omega) (by simp only [mz]; omega)
        · exfalso; omega
      · exfalso; omega

theorem fit_cand1 {e T : Nat → Int} (h : Fit e T) : Cand e (vx T 1) (vy T 1) := by
  obtain ⟨a, w, b, d⟩ := h
  have a := of8 a
  have d := of8 d
  clear b
  simp only [ld] at a d
  obtain ⟨a0, a1, a2, a3, a4, a5, a6, a7⟩ := a
  obtain ⟨d0, d1, d2, d3, d4, d5, d6, d7⟩ := d
  simp only [vx, vy]
  rcases d1 with c0 | c0
  · rcases d2 with c1 | c1
    · exact cand_mk 1 2 (by decide) (by decide) (by decide) (by simp only [mz]; omega) (by simp only [mz]; omega)
    · rcases d0 with c2 | c2
      · exact cand_mk 1 0 (by decide) (by decide) (by decide) (by simp only [mz]; omega) (by simp only [mz]; omega)
      · rcases d3 with c3 | c3
        · exact cand_mk 1 3 (by decide) (by decide) (by decide) (by simp only [mz]; omega) (by simp only [mz]; omega)
        · exfalso; omega
  · rcases d7 with c1 | c1
    · rcases d2 with c2 | c2
      · exact cand_mk 7 2 (by decide) (by decide) (by decide) (by simp only [mz]; omega) (by simp only [mz]; omega)
      · rcases d0 with c3 | c3
        · exact cand_mk 7 0 (by decide) (by decide) (by decide) (by simp only [mz]; omega) (by simp only [mz]; omega)
        · exfalso; omega
    · rcases d4 with c2 | c2
      · rcases d2 with c3 | c3
        · exact cand_mk 4 2 (by decide) (by decide) (by decide) (by simp only [mz]; omega) (by simp only [mz]; omega)
        · exfalso; omega
      · exfalso; omega

theorem fit_cand2 {e T : Nat → Int} (h : Fit e T) : Cand e (vx T 2) (vy T 2) := by
  obtain ⟨a, w, b, d⟩ := h
  have a := of8 a
  have d := of8 d
  clear b
  simp only [ld] at a d
  obtain ⟨a0, a1, a2, a3, a4, a5, a6, a7⟩ := a
  obtain ⟨d0, d1, d2, d3, d4, d5, d6, d7⟩ := d
  simp only [vx, vy]
  rcases d2 with c0 | c0
  · rcases d0 with c1 | c1
    · exact cand_mk 2 0 (by decide) (by decide) (by decide) (by simp only [mz]; omega) (by simp only [mz]; omega)
    · rcases d3 with c2 | c2
      · exact cand_mk 2 3 (by decide) (by decide) (by decide) (by simp only [mz]; omega) (by simp only [mz]; omega)
      · rcases d5 with c3 | c3
        · exact cand_mk 2 5 (by decide) (by decide) (by decide) (by simp only [mz]; omega) (by simp only [mz]; omega)
        · exfalso; omega
  · rcases d1 with c1 | c1
    · rcases d0 with c2 | c2
      · exact cand_mk 1 0 (by decide) (by decide) (by decide) (by simp only [mz]; omega) (by simp only [mz]; omega)
      · rcases d3 with c3 | c3
        · exact cand_mk 1 3 (by decide) (by decide) (by decide) (by simp only [mz]; omega) (by simp only [mz]; omega)
        · exfalso; omega
    · rcases d7 with c2 | c2
      · rcases d0 with c3 | c3
        · exact cand_mk 7 0 (by decide) (by decide) (by decide) (by simp only [mz]; omega) (by simp only [mz]; omega)
        · exfalso; omega
      · exfalso; omega

theorem fit_cand3 {e T : Nat → Int} (h : Fit e T) : Cand e (vx T 3) (vy T 3) := by
  obtain ⟨a, w, b, d⟩ := h
  have a := of8 a
  have d := of8 d
  clear b
  simp only [ld] at a d
  obtain ⟨a0, a1, a2, a3, a4, a5, a6, a7⟩ := a
  obtain ⟨d0, d1, d2, d3, d4, d5, d6, d7⟩ := d
  simp only [vx, vy]
  rcases d3 with c0 | c0
  · rcases d5 with c1 | c1
    · exact cand_mk 3 5 (by decide) (by decide) (by decide) (by simp only [mz]; omega) (by simp only [mz]; omega)
    · rcases d6 with c2 | c2
      · exact cand_mk 3 6 (by decide) (by decide) (by decide) (by simp only [mz]; omega) (by simp only [mz]; omega)
      · rcases d4 with c3 | c3
        · exact cand_mk 3 4 (by decide) (by decide) (by decide) (by simp only [mz]; omega) (by simp only [mz]; omega)
        · exfalso; omega
  · rcases d0 with c1 | c1
    · rcases d5 with c2 | c2
      · exact cand_mk 0 5 (by decide) (by decide) (by decide) (by simp only [mz]; omega) (by simp only [mz]; omega)
      · rcases d6 with c3 | c3
        · exact cand_mk 0 6 (by decide) (by decide) (by decide) (by simp only [mz]; omega) (by simp only [mz]; omega)
        · exfalso; omega
    · rcases d2 with c2 | c2
      · rcases d5 with c3 | c3
        · exact cand_mk 2 5 (by decide) (by decide) (by decide) (by simp only [mz]; omega) (by simp only [mz]; omega)
        · exfalso; omega
      · exfalso; omega

theorem fit_cand4 {e T : Nat → Int} (h : Fit e T) : Cand e (vx T 4) (vy T 4) := by
  obtain ⟨a, w, b, d⟩ := h
  have a := of8 a
  have d := of8 d
  clear b
  simp only [ld] at a d
  obtain ⟨a0, a1, a2, a3, a4, a5, a6, a7⟩ := a
  obtain ⟨d0, d1, d2, d3, d4, d5, d6, d7⟩ := d
  simp only [vx, vy]
  rcases d4 with c0 | c0
  · rcases d7 with c1 | c1
    · exact cand_mk 4 7 (by decide) (by decide) (by decide) (by simp only [mz]; omega) (by simp only [mz]; omega)
    · rcases d1 with c2 | c2
      · exact cand_mk 4 1 (by decide) (by decide) (by decide) (by simp only [mz]; omega) (by simp only [mz]; omega)
      · rcases d2 with c3 | c3
        · exact cand_mk 4 2 (by decide) (by decide) (by decide) (by simp only [mz]; omega) (by simp only [mz]; omega)
        · exfalso; omega
  · rcases d6 with c1 | c1
    · rcases d7 with c2 | c2
      · exact cand_mk 6 7 (by decide) (by decide) (by decide) (by simp only [mz]; omega) (by simp only [mz]; omega)
      · rcases d1 with c3 | c3
        · exact cand_mk 6 1 (by decide) (by decide) (by decide) (by simp only [mz]; omega) (by simp only [mz]; omega)
        · exfalso; omega
    · rcases d5 with c2 | c2
      · rcases d7 with c3 | c3
        · exact cand_mk 5 7 (by decide) (by decide) (by decide) (by simp only [mz]; omega) (by simp only [mz]; omega)
        · exfalso; omega
      · exfalso; omega

theorem fit_cand5 {e T : Nat → Int} (h : Fit e T) : Cand e (vx T 5) (vy T 5) := by
  obtain ⟨a, w, b, d⟩ := h
  have a := of8 a
  have d := of8 d
  clear b
  simp only [ld] at a d
  obtain ⟨a0, a1, a2, a3, a4, a5, a6, a7⟩ := a
  obtain ⟨d0, d1, d2, d3, d4, d5, d6, d7⟩ := d
  simp only [vx, vy]
  rcases d5 with c0 | c0
  · rcases d6 with c1 | c1
    · exact cand_mk 5 6 (by decide) (by decide) (by decide) (by simp only [mz]; omega) (by simp only [mz]; omega)
    · rcases d4 with c2 | c2
      · exact cand_mk 5 4 (by decide) (by decide) (by decide) (by simp only [mz]; omega) (by simp only [mz]; omega)
      · rcases d7 with c3 | c3
        · exact cand_mk 5 7 (by decide) (by decide) (by decide) (by simp only [mz]; omega) (by simp only [mz]; omega)
        · exfalso; omega
  · rcases d3 with c1 | c1
    · rcases d6 with c2 | c2
      · exact cand_mk 3 6 (by decide) (by decide) (by decide) (by simp only [mz]; omega) (by simp only [mz]; omega)
      · rcases d4 with c3 | c3
        · exact cand_mk 3 4 (by decide) (by decide) (by decide) (by simp only [mz]; omega) (by simp only [mz]; omega)
        · exfalso; omega
    · rcases d0 with c2 | c2
      · rcases d6 with c3 | c3
        · exact cand_mk 0 6 (by decide) (by decide) (by decide) (by simp only [mz]; omega) (by simp only [mz]; omega)
        · exfalso; omega
      · exfalso; omega

theorem fit_cand6 {e T : Nat → Int} (h : Fit e T) : Cand e (vx T 6) (vy T 6) := by
  obtain ⟨a, w, b, d⟩ := h
  have a := of8 a
  have d := of8 d
  clear b
  simp only [ld] at a d
  obtain ⟨a0, a1, a2, a3, a4, a5, a6, a7⟩ := a
  obtain ⟨d0, d1, d2, d3, d4, d5, d6, d7⟩ := d
  simp only [vx, vy]
  rcases d6 with c0 | c0
  · rcases d4 with c1 | c1
    · exact cand_mk 6 4 (by decide) (by decide) (by decide) (by simp only [mz]; omega) (by simp only [mz]; omega)
    · rcases d7 with c2 | c2
      · exact cand_mk 6 7 (by decide) (by decide) (by decide) (by simp only [mz]; omega) (by simp only [mz]; omega)
      · rcases d1 with c3 | c3
        · exact cand_mk 6 1 (by decide) (by decide) (by decide) (by simp only [mz]; omega) (by simp only [mz]; omega)
        · exfalso; omega
  · rcases d5 with c1 | c1
    · rcases d4 with c2 | c2
      · exact cand_mk 5 4 (by decide) (by decide) (by decide) (by simp only [mz]; omega) (by simp only [mz]; omega)
      · rcases d7 with c3 | c3
        · exact cand_mk 5 7 (by decide) (by decide) (by decide) (by simp only [mz]; omega) (by simp only [mz]; omega)
        · exfalso; omega
    · rcases d3 with c2 | c2
      · rcases d4 with c3 | c3
        · exact cand_mk 3 4 (by decide) (by decide) (by decide) (by simp only [mz]; omega) (by simp only [mz]; omega)
        · exfalso; omega
      · exfalso; omega

theorem fit_cand7 {e T : Nat → Int} (h : Fit e T) : Cand e (vx T 7) (vy T 7) := by
  obtain ⟨a, w, b, d⟩ := h
  have a := of8 a
  have d := of8 d
  clear b
  simp only [ld] at a d
  obtain ⟨a0, a1, a2, a3, a4, a5, a6, a7⟩ := a
  obtain ⟨d0, d1, d2, d3, d4, d5, d6, d7⟩ := d
  simp only [vx, vy]
  rcases d7 with c0 | c0
  · rcases d1 with c1 | c1
    · exact cand_mk 7 1 (by decide) (by decide) (by decide) (by simp only [mz]; omega) (by simp only [mz]; omega)
    · rcases d2 with c2 | c2
      · exact cand_mk 7 2 (by decide) (by decide) (by decide) (by simp only [mz]; omega) (by simp only [mz]; omega)
      · rcases d0 with c3 | c3
        · exact cand_mk 7 0 (by decide) (by decide) (by decide) (by simp only [mz]; omega) (by simp only [mz]; omega)
        · exfalso; omega
  · rcases d4 with c1 | c1
    · rcases d1 with c2 | c2
      · exact cand_mk 4 1 (by decide) (by decide) (by decide) (by simp only [mz]; omega) (by simp only [mz]; omega)
      · rcases d2 with c3 | c3
        · exact cand_mk 4 2 (by decide) (by decide) (by decide) (by simp only [mz]; omega) (by simp only [mz]; omega)
        · exfalso; omega
    · rcases d6 with c2 | c2
      · rcases d1 with c3 | c3
        · exact cand_mk 6 1 (by decide) (by decide) (by decide) (by simp only [mz]; omega) (by simp only [mz]; omega)
        · exfalso; omega
      · exfalso; omega

theorem fit_cand {e T : Nat → Int} (h : Fit e T) : ∀ j, j < 8 → Cand e (vx T j) (vy T j) := all8 (fit_cand0 h) (fit_cand1 h) (fit_cand2 h) (fit_cand3 h) (fit_cand4 h) (fit_cand5 h) (fit_cand6 h) (fit_cand7 h)
/-- side k begins at its own corner and ends at the next one: both on its line -/
theorem v_on (T : Nat → Int) : ∀ k, k < 8 → mz k (vx T k) (vy T k) = T k ∧ mz k (vx T (nxt k)) (vy T (nxt k)) = T k := by
  apply all8 <;> simp only [mz, vx, vy, nxt, true_and, and_true] <;> omega
/-- along side k -/
def az (k : Nat) (x y : Int) : Int := nz k * y - wz k * x
theorem fit_az {e T : Nat → Int} (h : Fit e T) {x y : Int} (hl : ∀ k, k < 8 → mz k x y ≤ T k) : ∀ k, k < 8 → mz k x y = T k → az k (vx T k) (vy T k) ≤ az k x y ∧ az k x y ≤ az k (vx T (nxt k)) (vy T (nxt k)) := by
  have l := of8 hl
  clear hl
  simp only [mz] at l
  obtain ⟨l0, l1, l2, l3, l4, l5, l6, l7⟩ := l
  apply all8 <;> simp only [mz, vx, vy, nxt, az, nz, wz] <;> omega
/-- and it is one point just where its length is 0 -/
theorem az_ld (T : Nat → Int) : ∀ k, k < 8 → (az k (vx T k) (vy T k) = az k (vx T (nxt k)) (vy T (nxt k)) ↔ ld T k = 0) := by
  apply all8 <;> simp only [vx, vy, nxt, az, nz, wz, ld] <;> omega
theorem v_ld (T : Nat → Int) : ∀ k, k < 8 → ((vx T k = vx T (nxt k) ∧ vy T k = vy T (nxt k)) ↔ ld T k = 0) := by
  apply all8 <;> simp only [vx, vy, nxt, ld, true_and, and_true] <;> omega
/-- a point is known by its measure and its place along -/
theorem mz_az {x y u v : Int} : ∀ k, k < 8 → mz k x y = mz k u v → az k x y = az k u v → x = u ∧ y = v := by
  apply all8 <;> simp only [mz, az, nz, wz] <;> omega
