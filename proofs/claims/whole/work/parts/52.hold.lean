/-! ===== PURE: does a piece stand in an assembly ===== -/
/-- the assemblies' rows, on both sides -/
def IT (σ : SS) (n : Nat) (m : Nat → Nat) : Prop := AN σ n ∧ ∀ a, a < n → m a ≤ 20 ∧ σ.1 22 a 2 = nI (m a) ∧ σ.1 82 0 a = nI (m a) ∧ ∀ i, i < m a → σ.1 83 0 (20 * a + i) = σ.1 23 a i ∧ σ.1 84 0 (20 * a + i) = σ.1 24 a i
def spP (σ : SS) (v : Int32) (a i : Nat) : Bool := decide (σ.1 24 a i = 0) && decide (σ.1 23 a i = v)
theorem p_hold_in {σ : SS} {n : Nat} {m : Nat → Nat} (h : IT σ n m) {v : Int32} {a : Nat} (ha : a < n) {K : Int32 → Int32 → SS → Option (Int32 × SS)} : ∀ (s t fuel : Nat), t + s = m a → s < fuel → f_X0_hold_20 K fuel v (nI a) (some a) (nI t) σ = if anyF (spP σ v a) s t then some (1, σ) else K v (nI (a + 1)) σ := by
  obtain ⟨h1, h2, h3, h4⟩ := h.2 a ha
  intro s
  induction s with
  | zero =>
    intro t fuel ht hf
    obtain ⟨f, rfl⟩ : ∃ f, fuel = f + 1 := ⟨fuel - 1, by omega⟩
    rw [f_X0_hold_20]
    simp only [Option.elim]
    rw [h2, if_pos (nI_le (by omega) (by omega))]
    show K v (nI a + 1) σ = _
    rw [nI_1]
    rfl
  | succ s ih =>
    intro t fuel ht hf
    obtain ⟨f, rfl⟩ : ∃ f, fuel = f + 1 := ⟨fuel - 1, by omega⟩
    have i20 : inr (nI t) 20 := nI_in (by omega) (by decide)
    have c20 : ix (nI t) = t := nI_clamp (by omega)
    have next : spP σ v a t = false → f_X0_hold_52 K (f_X0_hold_20 K f) v (nI a) (some a) (nI t) σ = if anyF (spP σ v a) (s + 1) t then some (1, σ) else K v (nI (a + 1)) σ := by
      intro hu
      show f_X0_hold_20 K f v (nI a) (some a) (nI t + 1) σ = _
      rw [nI_1, ih (t + 1) f (by omega) (by omega)]
      unfold anyF
      rw [hu, Bool.false_or]
      cases s <;> rfl
    rw [f_X0_hold_20]
    simp only [Option.elim]
    rw [h2, if_neg (nI_ge (by omega) (by omega)), chk_p i20, c20]
    by_cases e1 : σ.1 24 a t = 0
    · rw [if_pos e1, chk_p i20]
      by_cases e2 : σ.1 23 a t = v
      · rw [if_pos e2]
        have hu : spP σ v a t = true := by unfold spP; simp [e1, e2]
        unfold anyF
        rw [hu]
        rfl
      · rw [if_neg e2]
        exact next (by unfold spP; simp [e2])
    · rw [if_neg e1]
      exact next (by unfold spP; simp [e1])
theorem p_stands_in {σ : SS} {n : Nat} {m : Nat → Nat} (h : IT σ n m) {v : Int32} {a : Nat} (ha : a < n) {K : Int32 → Int32 → SS → Option (Int32 × SS)} : ∀ (s t fuel : Nat), t + s = m a → s < fuel → f_X8_stands_12 K fuel v (nI a) (nI t) σ = if anyF (spP σ v a) s t then some (1, σ) else K v (nI (a + 1)) σ := by
  have hn := h.1.1
  obtain ⟨h1, h2, h3, h4⟩ := h.2 a ha
  obtain ⟨g1, g2, -, -⟩ := n12 (show a < 12 by omega)
  intro s
  induction s with
  | zero =>
    intro t fuel ht hf
    obtain ⟨f, rfl⟩ : ∃ f, fuel = f + 1 := ⟨fuel - 1, by omega⟩
    rw [f_X8_stands_12, chk_p g1, g2, h3, if_pos (nI_le (by omega) (by omega))]
    show K v (nI a + 1) σ = _
    rw [nI_1]
    rfl
  | succ s ih =>
    intro t fuel ht hf
    obtain ⟨f, rfl⟩ : ∃ f, fuel = f + 1 := ⟨fuel - 1, by omega⟩
    obtain ⟨b1, b2⟩ := h4 t (by omega)
    have ei : (20 : Int32) * nI a + nI t = nI (20 * a + t) := by
      show nI 20 * nI a + nI t = _
      rw [pk_mul, nI_add]
    have i240 : inr (nI (20 * a + t)) 240 := nI_in (by omega) (by decide)
    have c240 : ix (nI (20 * a + t)) = 20 * a + t := nI_clamp (by omega)
    have next : spP σ v a t = false → f_X8_stands_53 K (f_X8_stands_12 K f) v (nI a) (nI t) σ = if anyF (spP σ v a) (s + 1) t then some (1, σ) else K v (nI (a + 1)) σ := by
      intro hu
      show f_X8_stands_12 K f v (nI a) (nI t + 1) σ = _
      rw [nI_1, ih (t + 1) f (by omega) (by omega)]
      unfold anyF
      rw [hu, Bool.false_or]
      cases s <;> rfl
    rw [f_X8_stands_12, chk_p g1, g2, h3, if_neg (nI_ge (by omega) (by omega)), ei, chk_p i240, c240, b2]
    by_cases e1 : σ.1 24 a t = 0
    · rw [if_pos e1, chk_p i240, b1]
      by_cases e2 : σ.1 23 a t = v
      · rw [if_pos e2]
        have hu : spP σ v a t = true := by unfold spP; simp [e1, e2]
        unfold anyF
        rw [hu]
        rfl
      · rw [if_neg e2]
        exact next (by unfold spP; simp [e2])
    · rw [if_neg e1]
      exact next (by unfold spP; simp [e1])
