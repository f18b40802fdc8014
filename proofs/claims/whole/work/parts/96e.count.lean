/-! ===== PURE: count() ===== -/
def cex (ex : Nat → Bool) : Nat → Nat
  | 0 => 0
  | p + 1 => cex ex p + (if ex p = true then 1 else 0)
theorem pres_loop {σ : SS} {n : Nat} {R : Nat → Nat → Int} {th og : Nat → Nat} {ex : Nat → Bool} {ba : Nat → Int} (h : PC σ n R th og ex ba) : ∀ (s t fuel : Nat), t + s = n → s < fuel → f_X6_present_4 fuel (nI (cex ex t)) (nI t) σ = some (nI (cex ex n), σ) := by
  have hn := h.1.1
  intro s
  induction s with
  | zero =>
    intro t fuel ht hf
    obtain ⟨f, rfl⟩ : ∃ f, fuel = f + 1 := ⟨fuel - 1, by omega⟩
    rw [f_X6_present_4, h.2.1.1, if_pos (nI_le (by omega) (by omega)), show t = n by omega]
  | succ s ih =>
    intro t fuel ht hf
    obtain ⟨f, rfl⟩ : ∃ f, fuel = f + 1 := ⟨fuel - 1, by omega⟩
    have htn : t < n := by omega
    have i := ih (t + 1) f (by omega) (by omega)
    have ec : cex ex (t + 1) = cex ex t + (if ex t = true then 1 else 0) := rfl
    rw [f_X6_present_4, h.2.1.1, if_neg (nI_ge htn (by omega))]
    rcases h.at htn with ⟨a1, a2, -⟩ | ⟨a1, a2⟩
    · rw [a2, cal_some, oel_s, lt_eq, nI_1, f_X6_present_23, lt_eq, nI_1]
      rw [ec, if_pos a1] at i
      exact i
    · rw [a2, cal_some, oel_n, f_X6_present_23, lt_eq, nI_1]
      rw [ec, if_neg (by rw [a1]; decide)] at i
      exact i
theorem cnt_loop {σ : SS} {n : Nat} {R : Nat → Nat → Int} {th og : Nat → Nat} {ex : Nat → Bool} {ba : Nat → Int} (h : PC σ n R th og ex ba) {v : Int32} : ∀ (s t fuel : Nat), t + s = n → s < fuel → f_X8_count_7 fuel v (nI (cex ex t)) (nI (blk og t)) (nI t) σ = f_X8_count_58 v (nI (cex ex n)) (nI (blk og n)) σ := by
  have hn := h.1.1
  intro s
  induction s with
  | zero =>
    intro t fuel ht hf
    obtain ⟨f, rfl⟩ : ∃ f, fuel = f + 1 := ⟨fuel - 1, by omega⟩
    rw [f_X8_count_7, h.2.1.2.1, if_pos (nI_le (by omega) (by omega)), show t = n by omega]
  | succ s ih =>
    intro t fuel ht hf
    obtain ⟨f, rfl⟩ : ∃ f, fuel = f + 1 := ⟨fuel - 1, by omega⟩
    have htn : t < n := by omega
    obtain ⟨g1, g2⟩ := n60 (show t < 60 by omega)
    obtain ⟨-, -, -, -, ⟨-, x2⟩, hib, -⟩ := h.2.2 t htn
    have ec : cex ex (t + 1) = cex ex t + (if ex t = true then 1 else 0) := rfl
    have eb : blk og (t + 1) = blk og t + (if og t = t then 1 else 0) := rfl
    have i := ih (t + 1) f (by omega) (by omega)
    have e32 : ∀ u : Nat, f_X8_count_32 (f_X8_count_7 f) v (nI (blk og t)) (nI t) (nI (cex ex t)) (nI u) σ = f_X8_count_7 f v (nI (cex ex t + u)) (nI (blk og (t + 1))) (nI (t + 1)) σ := by
      intro u
      rw [f_X8_count_32, nI_add, lt_eq, chk_p g1, g2, hib, eb]
      by_cases q : og t = t
      · rw [decide_eq_true q, if_neg (show ¬ b01 true = 0 by decide), if_pos q, f_X8_count_50, lt_eq, lt_eq, nI_1, nI_1]
      · rw [decide_eq_false q, if_pos (show b01 false = 0 by decide), if_neg q, f_X8_count_50, lt_eq, lt_eq, nI_1, ← nI_0, nI_add]
    rw [f_X8_count_7, h.2.1.2.1, if_neg (nI_ge htn (by omega)), chk_p g1, g2, x2]
    have e1 : (1 : Int32) = nI 1 := by decide
    cases hx : ex t with
    | true =>
      rw [ec, hx, if_pos rfl] at i
      rw [if_neg (show ¬ b01 true = 0 by decide), e1, e32]
      exact i
    | false =>
      rw [ec, hx, if_neg (by decide)] at i
      rw [if_pos (show b01 false = 0 by decide), ← nI_0, e32]
      exact i
theorem q_count {σ : SS} {n : Nat} {R : Nat → Nat → Int} {th og : Nat → Nat} {ex : Nat → Bool} {ba : Nat → Int} (h : PC σ n R th og ex ba) {m : Nat} {fa fb fj fp : Nat → Nat} {on : Nat → Bool} (hU : RU σ m fa fb fj fp on) {an : Nat} (hA : AN σ an) (v : Int32) : RO PN σ (f_X7_count v) (f_X8_count v) := by
  have hn := h.1.1
  have l7 := pres_loop h n 0 FU (by omega) (by show n < 5000; omega)
  have l8 := cnt_loop h (v := v) n 0 FU (by omega) (by show n < 5000; omega)
  have e0 : nI (cex ex 0) = (0 : Int32) := rfl
  have e0' : nI (blk og 0) = (0 : Int32) := rfl
  rw [e0, nI_0] at l7
  rw [e0, e0', nI_0] at l8
  have r8 : f_X8_count v σ = f_X8_count_58 v (nI (cex ex n)) (nI (blk og n)) σ := by
    rw [f_X8_count, l8]
  have r7 : f_X6_present σ = some (nI (cex ex n), σ) := by
    rw [f_X6_present, l7]
  unfold RO
  rw [r8, f_X7_count, f_X8_count_58, r7]
  by_cases q0 : v = 0
  · rw [if_pos q0, if_pos q0, cal_some]
    exact ⟨_, σ, rfl, rfl, fri.rf _ _⟩
  · rw [if_neg q0, if_neg q0]
    by_cases q1 : v = 1
    · rw [if_pos q1, if_pos q1, hU.2.1.1, hU.2.1.2]
      exact ⟨_, σ, rfl, rfl, fri.rf _ _⟩
    · rw [if_neg q1, if_neg q1]
      by_cases q2 : v = 2
      · rw [if_pos q2, if_pos q2, hA.2.1, hA.2.2.1]
        exact ⟨_, σ, rfl, rfl, fri.rf _ _⟩
      · rw [if_neg q2, if_neg q2]
        by_cases q3 : v = 3
        · rw [if_pos q3, if_pos q3, h.2.1.2.2]
          exact ⟨_, σ, rfl, rfl, fri.rf _ _⟩
        · rw [if_neg q3, if_neg q3]
          exact ⟨_, σ, rfl, rfl, fri.rf _ _⟩
