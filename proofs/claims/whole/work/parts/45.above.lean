/-! ===== PURE: above() ===== -/
theorem cn_zero {g : Nat → Option Nat} : ∀ {n : Nat}, cn g 0 n = 0
  | 0 => rfl
  | n + 1 => by
    unfold cn
    rw [cn_zero (n := n)]
    cases g n with
    | none => rfl
    | some r => simp
theorem gr_of {on : Nat → Bool} {fa fb fp : Nat → Nat} {k l j : Nat} {q : Nat × Nat} (h : cnt on fa fb fp k l j = some q) : gr on fa fb fp k l j = some (rk7 q j) := by unfold gr; rw [h]; rfl
/-- the i-th of the counting rules -/
def ith (on : Nat → Bool) (fa fb fp : Nat → Nat) (n k l i : Nat) : Option Nat := (ordr (gr on fa fb fp k l) n i 0).map (fun r => 39 - r % 40)
theorem ith_at {on : Nat → Bool} {fa fb fp : Nat → Nat} {n k l i r : Nat} (hn : n ≤ 40) (h : ordr (gr on fa fb fp k l) n i 0 = some r) : ∃ j q, j < n ∧ cnt on fa fb fp k l j = some q ∧ r = rk7 q j ∧ 39 - r % 40 = j ∧ cn (gr on fa fb fp k l) (rk7 q j) n = i := by
  obtain ⟨⟨j, hj, hg⟩, hc⟩ := ordr_some (fun j j' r h1 h2 => gr_inj j j' r (by omega) (by omega)) h
  obtain ⟨q, h1, h2⟩ := Option.map_eq_some_iff.mp hg
  refine ⟨j, q, hj, h1, h2.symm, ?_, ?_⟩
  · rw [← h2]
    unfold rk7
    omega
  · rw [h2, hc, cn_zero]
    omega
theorem p_nth {σ : SS} {n : Nat} {fa fb fj fp : Nat → Nat} {on : Nat → Bool} (h : RU σ n fa fb fj fp on) {k l i : Nat} (hk : k < 6) (hl : l < 6) (hi : i < 2 ^ 31) : f_X8_nth (nI k) (nI l) (nI i) σ = some (bo (ith on fa fb fp n k l i), σ) := by
  have hn := h.1
  unfold f_X8_nth
  refine p_nth_loop h hk hl hi (ith on fa fb fp n k l i) (fun j0 hj0 => ?_) (fun j q hj hq hc => ?_) n 0 FU (by omega) (by show n < 5000; omega) (fun _ _ => Nat.zero_le _)
  · unfold ith at hj0
    obtain ⟨r, h1, h2⟩ := Option.map_eq_some_iff.mp hj0
    obtain ⟨j, q, g1, g2, g3, g4, g5⟩ := ith_at hn.2 h1
    rw [g4] at h2
    subst h2
    exact ⟨g1, q, g2, by rw [cn_iff (by omega) g2 n hn.2]; exact g5⟩
  · rw [cn_iff (by omega) hq n hn.2] at hc
    have inj : ∀ j j' r, j < n → j' < n → gr on fa fb fp k l j = some r → gr on fa fb fp k l j' = some r → j = j' := fun j j' r h1 h2 => gr_inj j j' r (by omega) (by omega)
    cases ho : ordr (gr on fa fb fp k l) n i 0 with
    | none =>
      have := (ordr_none inj ho j _ hj (gr_of hq)).2 (Nat.zero_le _)
      rw [cn_zero] at this
      omega
    | some r =>
      obtain ⟨j', q', g1, g2, g3, g4, g5⟩ := ith_at hn.2 ho
      unfold ith
      rw [ho]
      show some (39 - r % 40) = some j
      rw [g4]
      congr 1
      have e1 := cn_one inj (Nat.le_refl _) hj (gr_of hq)
      have e2 := cn_one inj (Nat.le_refl _) g1 (gr_of g2)
      rcases Nat.lt_trichotomy (rk7 q j) (rk7 q' j') with h3 | h3 | h3
      · have := cn_mono (g := gr on fa fb fp k l) (show rk7 q j + 1 ≤ rk7 q' j' by omega) (n := n)
        omega
      · exact inj j' j _ g1 hj (gr_of g2) (by rw [gr_of hq, h3])
      · have := cn_mono (g := gr on fa fb fp k l) (show rk7 q' j' + 1 ≤ rk7 q j by omega) (n := n)
        omega
theorem p_inOrder {σ : SS} {n : Nat} {fa fb fj fp : Nat → Nat} {on : Nat → Bool} (h : RU σ n fa fb fj fp on) {k l i : Nat} (hk : k < 6) (hl : l < 6) (hi : i < 2 ^ 31) : f_X5_inOrder (nI k) (nI l) (nI i) σ = some (bo (ith on fa fb fp n k l i), σ) := by
  have hn := h.1
  unfold f_X5_inOrder
  rw [h.2.1.1]
  by_cases h1 : i < n
  · rw [if_pos (nI_lt h1 (by omega))]
    have e := p_inOrder_loop h hk hl (show i < 40 by omega) i 0 0 FU (by omega) (by show i + 1 < 5000; omega) (by omega)
    refine Eq.trans (show _ = f_X5_inOrder_17 FU (nI k) (nI l) (nI i) (iz (((0 : Nat) : Int) - 1)) (nI 0) σ from rfl) ?_
    rw [e]
    unfold ith
    cases ordr (gr on fa fb fp k l) n i 0 with
    | none => rfl
    | some r => rfl
  · rw [if_neg (nI_nlt (by omega) (by omega))]
    unfold ith
    cases ho : ordr (gr on fa fb fp k l) n i 0 with
    | none => rfl
    | some r =>
      exfalso
      obtain ⟨j, q, g1, g2, g3, g4, g5⟩ := ith_at hn.2 ho
      have e2 := cn_one (g := gr on fa fb fp k l) (fun j j' r h1 h2 => gr_inj j j' r (by omega) (by omega)) (Nat.le_refl _) g1 (gr_of g2)
      have e3 := cn_le (g := gr on fa fb fp k l) (x := rk7 q j + 1) (n := n)
      omega
theorem kind_of {k : Int32} (h : (0 : Int32) ≤ k ∧ k ≤ 5) : ∃ m : Nat, m < 6 ∧ k = nI m := by
  obtain ⟨j, h1, h2⟩ := nI_of2 (x := k) (M := 5) (n := 5) (by decide) (Int32.not_lt.mpr h.1) h.2
  exact ⟨j, by omega, h2⟩
theorem p_isKind (a : Int32) (σ : SS) : f_X8_isKind a σ = some (if (0 : Int32) ≤ a ∧ a ≤ 5 then 1 else 0, σ) := by
  unfold f_X8_isKind
  simp only [c64_0, c64_5, p_in, cal_some]
  rw [chk_p]
  by_cases h : (0 : Int32) ≤ a ∧ a ≤ 5
  · rw [if_pos h]; exact Or.inr rfl
  · rw [if_neg h]; exact Or.inl rfl
/-- above(): both sides answer the same, and change nothing -/
theorem q_above {σ : SS} {n : Nat} {fa fb fj fp : Nat → Nat} {on : Nat → Bool} (h : RU σ n fa fb fj fp on) (a b c : Int32) : ∃ r, f_X7_above a b c σ = some (r, σ) ∧ f_X8_above a b c σ = some (r, σ) := by
  unfold f_X7_above f_X8_above f_X8_above_18
  simp only [p_isFrom, p_isKind, cal_some, t01]
  by_cases h1 : (0 : Int32) ≤ a ∧ a ≤ 5
  · simp only [if_pos h1]
    by_cases h2 : (0 : Int32) ≤ b ∧ b ≤ 5
    · simp only [if_pos h2]
      by_cases h3 : 0 ≤ c
      · simp only [if_pos h3]
        obtain ⟨k, hk, rfl⟩ := kind_of h1
        obtain ⟨l, hl, rfl⟩ := kind_of h2
        obtain ⟨i, hi, rfl⟩ := nI_of (Int32.not_lt.mpr h3)
        rw [p_inOrder h hk hl hi, p_nth h hk hl hi]
        exact ⟨_, rfl, rfl⟩
      · simp only [if_neg h3]
        exact ⟨_, rfl, rfl⟩
    · simp only [if_neg h2]
      exact ⟨_, rfl, rfl⟩
  · simp only [if_neg h1]
    exact ⟨_, rfl, rfl⟩
