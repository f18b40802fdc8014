/-! ===== PURE: geometry: eight reaches (doubled), the eight directions ===== -/
/-- what direction k measures of a point -/
def mz (k : Nat) (x y : Int) : Int := match k with
  | 0 => x
  | 1 => y
  | 2 => x + y
  | 3 => x - y
  | 4 => -x
  | 5 => -y
  | 6 => -x - y
  | _ => y - x
/-- how long side k is (0: none) -/
def ld (T : Nat → Int) (k : Nat) : Int := match k with
  | 0 => T 2 + T 3 - 2 * T 0
  | 1 => T 2 + T 7 - 2 * T 1
  | 2 => T 0 + T 1 - T 2
  | 3 => T 0 + T 5 - T 3
  | 4 => T 6 + T 7 - 2 * T 4
  | 5 => T 6 + T 3 - 2 * T 5
  | 6 => T 4 + T 5 - T 6
  | _ => T 1 + T 4 - T 7
/-- where side k begins -/
def vx (T : Nat → Int) (k : Nat) : Int := match k with
  | 0 => T 0
  | 1 => T 2 - T 1
  | 2 => T 0
  | 3 => T 3 - T 5
  | 4 => -T 4
  | 5 => T 5 - T 6
  | 6 => -T 4
  | _ => T 1 - T 7
def vy (T : Nat → Int) (k : Nat) : Int := match k with
  | 0 => T 0 - T 3
  | 1 => T 1
  | 2 => T 2 - T 0
  | 3 => -T 5
  | 4 => T 7 - T 4
  | 5 => -T 5
  | 6 => T 4 - T 6
  | _ => T 1
/-- the next direction, the inside on the left -/
def nxt (k : Nat) : Nat := match k with
  | 0 => 2
  | 1 => 7
  | 2 => 1
  | 3 => 0
  | 4 => 6
  | 5 => 3
  | 6 => 5
  | _ => 4
def opp (k : Nat) : Nat := match k with
  | 0 => 4
  | 1 => 5
  | 2 => 6
  | 3 => 7
  | 4 => 0
  | 5 => 1
  | 6 => 2
  | _ => 3
theorem opp_mod : ∀ k, k < 8 → opp k = (k + 4) % 8 := by decide
theorem opp_lt : ∀ k, k < 8 → opp k < 8 := by decide
theorem opp_opp : ∀ k, k < 8 → opp (opp k) = k := by decide
/-- tight reaches T of what the whole bounds e let through -/
def Fit (e T : Nat → Int) : Prop := (∀ k, k < 8 → 0 ≤ ld T k) ∧ (0 < T 0 + T 4 ∧ 0 < T 1 + T 5 ∧ 0 < T 2 + T 6 ∧ 0 < T 3 + T 7) ∧ (∀ k, k < 8 → T k ≤ 2 * e k) ∧ (∀ k, k < 8 → T k = 2 * e k ∨ ld T k = 0)
theorem all8 {P : Nat → Prop} (h0 : P 0) (h1 : P 1) (h2 : P 2) (h3 : P 3) (h4 : P 4) (h5 : P 5) (h6 : P 6) (h7 : P 7) : ∀ k, k < 8 → P k := by
  intro k hk
  match k, hk with
  | 0, _ => exact h0
  | 1, _ => exact h1
  | 2, _ => exact h2
  | 3, _ => exact h3
  | 4, _ => exact h4
  | 5, _ => exact h5
  | 6, _ => exact h6
  | 7, _ => exact h7
theorem of8 {P : Nat → Prop} (h : ∀ k, k < 8 → P k) : P 0 ∧ P 1 ∧ P 2 ∧ P 3 ∧ P 4 ∧ P 5 ∧ P 6 ∧ P 7 := ⟨h 0 (by decide), h 1 (by decide), h 2 (by decide), h 3 (by decide), h 4 (by decide), h 5 (by decide), h 6 (by decide), h 7 (by decide)⟩
/-- the bounds let through just what the reaches do -/
theorem fit_let {e T : Nat → Int} (h : Fit e T) {x y : Int} (hl : ∀ k, k < 8 → mz k x y ≤ 2 * e k) : ∀ k, k < 8 → mz k x y ≤ T k := by
  obtain ⟨a, w, b, d⟩ := h
  have a := of8 a
  have b := of8 b
  have d := of8 d
  have l := of8 hl
  clear hl
  simp only [ld, mz] at a b d l
  obtain ⟨a0, a1, a2, a3, a4, a5, a6, a7⟩ := a
  obtain ⟨b0, b1, b2, b3, b4, b5, b6, b7⟩ := b
  obtain ⟨d0, d1, d2, d3, d4, d5, d6, d7⟩ := d
  obtain ⟨l0, l1, l2, l3, l4, l5, l6, l7⟩ := l
  apply all8 <;> simp only [mz]
  · rcases d0 with d0 | d0
    · omega
    · rcases d2 with d2 | d2 <;> rcases d3 with d3 | d3 <;> (first | omega | (rcases d1 with d1 | d1 <;> first | omega | (rcases d5 with d5 | d5 <;> omega)))
  · rcases d1 with d1 | d1
    · omega
    · rcases d2 with d2 | d2 <;> rcases d7 with d7 | d7 <;> (first | omega | (rcases d0 with d0 | d0 <;> first | omega | (rcases d4 with d4 | d4 <;> omega)))
  · rcases d2 with d2 | d2
    · omega
    · rcases d0 with d0 | d0 <;> rcases d1 with d1 | d1 <;> (first | omega | (rcases d3 with d3 | d3 <;> first | omega | (rcases d7 with d7 | d7 <;> omega)))
  · rcases d3 with d3 | d3
    · omega
    · rcases d0 with d0 | d0 <;> rcases d5 with d5 | d5 <;> (first | omega | (rcases d2 with d2 | d2 <;> first | omega | (rcases d6 with d6 | d6 <;> omega)))
  · rcases d4 with d4 | d4
    · omega
    · rcases d6 with d6 | d6 <;> rcases d7 with d7 | d7 <;> (first | omega | (rcases d1 with d1 | d1 <;> first | omega | (rcases d5 with d5 | d5 <;> omega)))
  · rcases d5 with d5 | d5
    · omega
    · rcases d6 with d6 | d6 <;> rcases d3 with d3 | d3 <;> (first | omega | (rcases d0 with d0 | d0 <;> first | omega | (rcases d4 with d4 | d4 <;> omega)))
  · rcases d6 with d6 | d6
    · omega
    · rcases d4 with d4 | d4 <;> rcases d5 with d5 | d5 <;> (first | omega | (rcases d3 with d3 | d3 <;> first | omega | (rcases d7 with d7 | d7 <;> omega)))
  · rcases d7 with d7 | d7
    · omega
    · rcases d1 with d1 | d1 <;> rcases d4 with d4 | d4 <;> (first | omega | (rcases d2 with d2 | d2 <;> first | omega | (rcases d6 with d6 | d6 <;> omega)))
/-- diagonal reaches are even -/
theorem fit_even {e T : Nat → Int} (h : Fit e T) : T 2 % 2 = 0 ∧ T 3 % 2 = 0 ∧ T 6 % 2 = 0 ∧ T 7 % 2 = 0 := by
  obtain ⟨a, w, b, d⟩ := h
  have a := of8 a
  have d := of8 d
  clear b
  simp only [ld] at a d
  obtain ⟨a0, a1, a2, a3, a4, a5, a6, a7⟩ := a
  obtain ⟨d0, d1, d2, d3, d4, d5, d6, d7⟩ := d
  refine ⟨?_, ?_, ?_, ?_⟩
  · rcases d2 with d2 | d2
    · omega
    · rcases d0 with d0 | d0 <;> rcases d1 with d1 | d1 <;> (first | omega | (rcases d3 with d3 | d3 <;> first | omega | (rcases d7 with d7 | d7 <;> omega)))
  · rcases d3 with d3 | d3
    · omega
    · rcases d0 with d0 | d0 <;> rcases d5 with d5 | d5 <;> (first | omega | (rcases d2 with d2 | d2 <;> first | omega | (rcases d6 with d6 | d6 <;> omega)))
  · rcases d6 with d6 | d6
    · omega
    · rcases d4 with d4 | d4 <;> rcases d5 with d5 | d5 <;> (first | omega | (rcases d3 with d3 | d3 <;> first | omega | (rcases d7 with d7 | d7 <;> omega)))
  · rcases d7 with d7 | d7
    · omega
    · rcases d1 with d1 | d1 <;> rcases d4 with d4 | d4 <;> (first | omega | (rcases d2 with d2 | d2 <;> first | omega | (rcases d6 with d6 | d6 <;> omega)))
/-- the corners are let through -/
theorem fit_v {e T : Nat → Int} (h : Fit e T) : ∀ j, j < 8 → ∀ k, k < 8 → mz k (vx T j) (vy T j) ≤ T k := by
  obtain ⟨a, w, b, d⟩ := h
  have a := of8 a
  clear b d
  simp only [ld] at a
  obtain ⟨a0, a1, a2, a3, a4, a5, a6, a7⟩ := a
  apply all8 <;> apply all8 <;> simp only [mz, vx, vy] <;> omega
