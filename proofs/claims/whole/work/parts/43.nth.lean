/-! ===== PURE: the i-th of the counting rules ===== -/
/-- how many of the first n have a number below x -/
def cn (g : Nat → Option Nat) (x : Nat) : Nat → Nat
  | 0 => 0
  | n + 1 => cn g x n + (match g n with
    | some r => if r < x then 1 else 0
    | none => 0)
theorem cn_none {g : Nat → Option Nat} {x y : Nat} (hxy : x ≤ y) : ∀ {n : Nat}, (∀ j r, j < n → g j = some r → r < x ∨ y ≤ r) → cn g y n = cn g x n
  | 0, _ => rfl
  | n + 1, h => by
    unfold cn
    rw [cn_none hxy (fun j r hj => h j r (by omega))]
    cases hg : g n with
    | none => rfl
    | some r =>
      simp only
      have := h n r (by omega) hg
      by_cases h1 : r < x
      · rw [if_pos h1, if_pos (by omega)]
      · rw [if_neg h1, if_neg (by omega)]
theorem cn_one {g : Nat → Option Nat} {r N : Nat} (hi : ∀ j j' r, j < N → j' < N → g j = some r → g j' = some r → j = j') : ∀ {n j : Nat}, n ≤ N → j < n → g j = some r → cn g (r + 1) n = cn g r n + 1
  | n + 1, j, hN, hj, hg => by
    unfold cn
    by_cases hjn : j = n
    · subst hjn
      rw [hg]
      simp only
      rw [if_pos (by omega), if_neg (by omega), cn_none (x := r) (y := r + 1) (by omega) (fun j' r' hj' hg' => ?_)]
      by_cases h : r' = r
      · subst h
        have := hi j j' r' (by omega) (by omega) hg hg'
        omega
      · omega
    · rw [cn_one hi (n := n) (j := j) (by omega) (by omega) hg]
      cases hn : g n with
      | none => rfl
      | some r' =>
        simp only
        have hne : r' ≠ r := fun e => hjn (hi j n r (by omega) (by omega) hg (by rw [hn, e]))
        by_cases h1 : r' < r
        · rw [if_pos (by omega), if_pos h1]
        · rw [if_neg (by omega), if_neg h1]
theorem cn_mono {g : Nat → Option Nat} {x y : Nat} (hxy : x ≤ y) : ∀ {n : Nat}, cn g x n ≤ cn g y n
  | 0 => Nat.le_refl _
  | n + 1 => by
    unfold cn
    have := cn_mono (g := g) hxy (n := n)
    cases g n with
    | none => simp only; omega
    | some r =>
      simp only
      by_cases h1 : r < x
      · rw [if_pos h1, if_pos (by omega)]; omega
      · rw [if_neg h1]
        split <;> omega
/-- the rank that m + 1 steps from lo on come to -/
def ordr (g : Nat → Option Nat) (n : Nat) : Nat → Nat → Option Nat
  | 0, lo => mfold lo g n
  | m + 1, lo => (mfold lo g n).bind (fun r => ordr g n m (r + 1))
theorem mfold_cn {g : Nat → Option Nat} {n lo r : Nat} (h : mfold lo g n = some r) : cn g r n = cn g lo n := by
  obtain ⟨j, hj, hg, hlo⟩ := mfold_from h
  refine cn_none hlo (fun j' r' hj' hg' => ?_)
  by_cases h1 : r' < lo
  · exact Or.inl h1
  · obtain ⟨b, h2, h3⟩ := mfold_le hj' hg' (show lo ≤ r' by omega)
    rw [h] at h2
    cases h2
    exact Or.inr h3
theorem mfold_none {g : Nat → Option Nat} {n lo : Nat} (h : mfold lo g n = none) : ∀ j r, j < n → g j = some r → r < lo := by
  intro j r hj hg
  rcases Nat.lt_or_ge r lo with h1 | h1
  · exact h1
  · obtain ⟨b, h2, -⟩ := mfold_le hj hg h1
    rw [h] at h2
    cases h2
/-- m steps: exactly m more lie below -/
theorem ordr_some {g : Nat → Option Nat} {n : Nat} (hi : ∀ j j' r, j < n → j' < n → g j = some r → g j' = some r → j = j') : ∀ {m lo r : Nat}, ordr g n m lo = some r → (∃ j, j < n ∧ g j = some r) ∧ cn g r n = cn g lo n + m
  | 0, lo, r, h => by
    obtain ⟨j, hj, hg, -⟩ := mfold_from h
    exact ⟨⟨j, hj, hg⟩, mfold_cn h⟩
  | m + 1, lo, r, h => by
    unfold ordr at h
    obtain ⟨a, ha, hr⟩ := Option.bind_eq_some_iff.mp h
    obtain ⟨h1, h2⟩ := ordr_some hi (m := m) hr
    obtain ⟨j, hj, hg, -⟩ := mfold_from ha
    refine ⟨h1, ?_⟩
    rw [h2, cn_one hi (Nat.le_refl _) hj hg, mfold_cn ha]
    omega
theorem ordr_none {g : Nat → Option Nat} {n : Nat} (hi : ∀ j j' r, j < n → j' < n → g j = some r → g j' = some r → j = j') : ∀ {m lo : Nat}, ordr g n m lo = none → ∀ j r, j < n → g j = some r → cn g r n < cn g lo n + m + 1 ∧ (lo ≤ r → cn g r n < cn g lo n + m)
  | 0, lo, h, j, r, hj, hg => by
    have := mfold_none h j r hj hg
    have h2 := cn_mono (g := g) (show r ≤ lo by omega) (n := n)
    exact ⟨by omega, fun h3 => by omega⟩
  | m + 1, lo, h, j, r, hj, hg => by
    unfold ordr at h
    cases hm : mfold lo g n with
    | none =>
      have := mfold_none hm j r hj hg
      have h2 := cn_mono (g := g) (show r ≤ lo by omega) (n := n)
      exact ⟨by omega, fun h3 => by omega⟩
    | some a =>
      rw [hm] at h
      have h1 := ordr_none hi (m := m) (lo := a + 1) h j r hj hg
      obtain ⟨j', hj', hg', -⟩ := mfold_from hm
      have e1 := cn_one hi (Nat.le_refl _) hj' hg'
      have e2 := mfold_cn hm
      refine ⟨by omega, fun h3 => ?_⟩
      obtain ⟨b, h4, h5⟩ := mfold_le hj hg h3
      rw [hm] at h4
      cases h4
      by_cases h6 : r = a
      · subst h6
        omega
      · have := h1.2 (by omega)
        omega
theorem p_numberOf {r : Nat} (h : r < 1000) (σ : SS) : f_X5_numberOf (nI r) σ = some (nI (39 - r % 40), σ) := by
  unfold f_X5_numberOf
  show some (nI 39 - (nI r - nI r / nI 40 * nI 40), σ) = _
  rw [pk_rem (by omega) (by decide) (by decide), pk_sub (by omega)]
theorem p_inOrder_loop {σ : SS} {n : Nat} {fa fb fj fp : Nat → Nat} {on : Nat → Bool} (h : RU σ n fa fb fj fp on) {k l i : Nat} (hk : k < 6) (hl : l < 6) (hi : i < 40) : ∀ (m t lo fuel : Nat), t + m = i → m + 1 < fuel → lo ≤ 1000 → f_X5_inOrder_17 fuel (nI k) (nI l) (nI i) (iz ((lo : Int) - 1)) (nI t) σ = some (match ordr (gr on fa fb fp k l) n m lo with
    | some r => nI (39 - r % 40)
    | none => -4, σ) := by
  intro m
  induction m with
  | zero =>
    intro t lo fuel ht hf hlo
    obtain ⟨f, rfl⟩ : ∃ f, fuel = f + 1 + 1 := ⟨fuel - 2, by omega⟩
    rw [f_X5_inOrder_17, if_neg (nI_nlt (by omega) (by omega)), p_rankAfter h hk hl hlo, cal_some]
    unfold ordr
    cases hm : mfold lo (gr on fa fb fp k l) n with
    | none => rfl
    | some r =>
      obtain ⟨j, -, hg, -⟩ := mfold_from hm
      have hr := gr_lt hg
      rw [if_neg (by
        show ¬ nI r = -4
        intro e
        have e2 : iz (r : Int) = iz (-4) := by rw [← iz_nI]; exact e
        have := (iz_eq ⟨by omega, by omega⟩ ⟨by decide, by decide⟩).mp e2
        omega)]
      show f_X5_inOrder_17 (f + 1) (nI k) (nI l) (nI i) (nI r) (nI t + 1) σ = _
      rw [nI_1, f_X5_inOrder_17, if_pos (nI_lt (by omega) (by omega))]
      unfold f_X5_inOrder_49
      show cal (f_X5_numberOf (nI r) σ) _ = _
      rw [p_numberOf hr, cal_some]
  | succ m ih =>
    intro t lo fuel ht hf hlo
    obtain ⟨f, rfl⟩ : ∃ f, fuel = f + 1 := ⟨fuel - 1, by omega⟩
    rw [f_X5_inOrder_17, if_neg (nI_nlt (by omega) (by omega)), p_rankAfter h hk hl hlo, cal_some]
    unfold ordr
    cases hm : mfold lo (gr on fa fb fp k l) n with
    | none => rfl
    | some r =>
      obtain ⟨j, -, hg, -⟩ := mfold_from hm
      have hr := gr_lt hg
      rw [if_neg (by
        show ¬ nI r = -4
        intro e
        have e2 : iz (r : Int) = iz (-4) := by rw [← iz_nI]; exact e
        have := (iz_eq ⟨by omega, by omega⟩ ⟨by decide, by decide⟩).mp e2
        omega)]
      unfold lt_
      have hb : bo (some r) = iz (((r + 1 : Nat) : Int) - 1) := by
        show nI r = _
        rw [iz_nI]
        congr 1
        omega
      rw [nI_1, hb]
      exact ih (t + 1) (r + 1) f (by omega) (by omega) (by omega)
