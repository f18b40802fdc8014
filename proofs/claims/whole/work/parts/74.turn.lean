/-! ===== PURE: turnRows, the first corner ===== -/
/-- the rows of sides -/
def PRw (r i _k : Nat) : Prop := 58 ≤ r ∧ r ≤ 62 ∧ i = 0
def PSd (r i k : Nat) : Prop := PRw r i k ∨ (r = 25 ∧ k = 17)
def turnI (σ0 σ : SS) (i : Nat) : Prop := (∀ r, 58 ≤ r → r ≤ 62 → ∀ j, σ.1 r 0 j = if j + 1 < i then σ0.1 r 0 (j + 1) else σ0.1 r 0 j) ∧ fri PRw σ0 σ
theorem turn_step {σ0 σ : SS} {i : Nat} (h : turnI σ0 σ (i + 1)) : turnI σ0 (up (up (up (up (up σ 58 0 i (σ.1 58 0 (i + 1))) 59 0 i (σ.1 59 0 (i + 1))) 60 0 i (σ.1 60 0 (i + 1))) 61 0 i (σ.1 61 0 (i + 1))) 62 0 i (σ.1 62 0 (i + 1))) (i + 2) := by
  obtain ⟨h1, h2⟩ := h
  constructor
  · intro r hr hr2 j
    have e := h1 r hr hr2 j
    have e2 := h1 r hr hr2 (i + 1)
    rw [if_neg (by omega)] at e2
    have hc : r = 58 ∨ r = 59 ∨ r = 60 ∨ r = 61 ∨ r = 62 := by omega
    by_cases q : j = i
    · subst q
      rw [if_pos (by omega), ← e2]
      rcases hc with rfl | rfl | rfl | rfl | rfl <;> simp (config := { decide := true }) only [up_rd, and_self, if_true, false_and, if_false]
    · have e3 : (if j + 1 < i + 2 then σ0.1 r 0 (j + 1) else σ0.1 r 0 j) = σ.1 r 0 j := by
        rw [e]
        by_cases q2 : j + 1 < i + 1
        · rw [if_pos q2, if_pos (by omega)]
        · rw [if_neg q2, if_neg (by omega)]
      rw [e3]
      rcases hc with rfl | rfl | rfl | rfl | rfl <;> simp (config := { decide := true }) only [up_rd, q, and_false, false_and, if_false]
  · refine fri.up (fri.up (fri.up (fri.up (fri.up h2 ?_) ?_) ?_) ?_) ?_ <;> (unfold PRw; omega)
theorem turn_loop {σ0 : SS} {n : Nat} (hn : n ≤ 8) (hs : σ0.1 25 0 17 = nI n) {x1 x2 x3 x4 x5 : Int32} : ∀ (s i fuel : Nat) (σ : SS), i + 1 + s = n → s < fuel → turnI σ0 σ (i + 1) → ∃ σ', f_X8_turnRows_40 fuel x1 x2 x3 x4 x5 (nI (i + 1)) σ = f_X8_turnRows_135 x1 x2 x3 x4 x5 σ' ∧ turnI σ0 σ' n := by
  intro s
  induction s with
  | zero =>
    intro i fuel σ hi hf h
    obtain ⟨f, rfl⟩ : ∃ f, fuel = f + 1 := ⟨fuel - 1, by omega⟩
    have e : σ.1 25 0 17 = nI n := by rw [h.2.1 25 0 17 (by unfold PRw; omega)]; exact hs
    rw [f_X8_turnRows_40, e, if_pos (nI_le (by omega) (by omega))]
    exact ⟨σ, rfl, by rw [show n = i + 1 by omega]; exact h⟩
  | succ s ih =>
    intro i fuel σ hi hf h
    obtain ⟨f, rfl⟩ : ∃ f, fuel = f + 1 := ⟨fuel - 1, by omega⟩
    have e : σ.1 25 0 17 = nI n := by rw [h.2.1 25 0 17 (by unfold PRw; omega)]; exact hs
    obtain ⟨g1, g2⟩ := n8 (show i + 1 < 8 by omega)
    obtain ⟨g3, g4⟩ := n8 (show i < 8 by omega)
    obtain ⟨σ', q1, q2⟩ := ih (i + 1) f _ (by omega) (by omega) (turn_step h)
    refine ⟨σ', ?_, q2⟩
    rw [← q1, f_X8_turnRows_40, e, if_neg (nI_ge (by omega) (by omega))]
    simp (config := { decide := true }) only [lt_, up_rd, false_and, if_false, nI_pred, g2, g4, chk_p g1, chk_p g3, nI_1]
theorem turn_un (σ : SS) : f_X8_turnRows σ = f_X8_turnRows_40 FU (σ.1 58 0 0) (σ.1 59 0 0) (σ.1 60 0 0) (σ.1 61 0 0) (σ.1 62 0 0) (nI (0 + 1)) σ := by
  have g1 : inr (0 : Int32) 8 := by decide
  have g2 : ix (0 : Int32) = 0 := by decide
  have g3 : nI (0 + 1) = (1 : Int32) := by decide
  rw [f_X8_turnRows, chk_p g1, lt_eq, chk_p g1, lt_eq, chk_p g1, lt_eq, chk_p g1, lt_eq, chk_p g1, lt_eq, g2, g3]
theorem p_turnRows {σ : SS} {n : Nat} (h0 : 0 < n) (hn : n ≤ 8) (hs : σ.1 25 0 17 = nI n) : ∃ σ', f_X8_turnRows σ = some ((), σ') ∧ (∀ r, 58 ≤ r → r ≤ 62 → ∀ j, j < n → σ'.1 r 0 j = σ.1 r 0 ((j + 1) % n)) ∧ fri PRw σ σ' := by
  obtain ⟨m, rfl⟩ : ∃ m, n = m + 1 := ⟨n - 1, by omega⟩
  have z0 : turnI σ σ (0 + 1) := ⟨fun r _ _ j => by rw [if_neg (by omega)], fri.rf _ _⟩
  obtain ⟨σ1, q1, q2, q3⟩ := turn_loop (x1 := σ.1 58 0 0) (x2 := σ.1 59 0 0) (x3 := σ.1 60 0 0) (x4 := σ.1 61 0 0) (x5 := σ.1 62 0 0) hn hs m 0 FU σ (by omega) (by show m < 5000; omega) z0
  obtain ⟨g3, g4⟩ := n8 (show m < 8 by omega)
  have e : σ1.1 25 0 17 = nI (m + 1) := by rw [q3.1 25 0 17 (by unfold PRw; omega)]; exact hs
  refine ⟨up (up (up (up (up σ1 58 0 m (σ.1 58 0 0)) 59 0 m (σ.1 59 0 0)) 60 0 m (σ.1 60 0 0)) 61 0 m (σ.1 61 0 0)) 62 0 m (σ.1 62 0 0), ?_, ?_, ?_⟩
  · rw [turn_un, q1, f_X8_turnRows_135]
    simp (config := { decide := true }) only [lt_, up_rd, false_and, if_false, e, nI_pred, g4, chk_p g3]
  · intro r hr hr2 j hj
    have hc : r = 58 ∨ r = 59 ∨ r = 60 ∨ r = 61 ∨ r = 62 := by omega
    have e2 := q2 r hr hr2 j
    by_cases q : j = m
    · subst q
      rw [Nat.mod_self]
      rcases hc with rfl | rfl | rfl | rfl | rfl <;> simp (config := { decide := true }) only [up_rd, and_self, if_true, false_and, if_false]
    · rw [if_pos (by omega)] at e2
      rw [Nat.mod_eq_of_lt (by omega), ← e2]
      rcases hc with rfl | rfl | rfl | rfl | rfl <;> simp (config := { decide := true }) only [up_rd, q, and_false, false_and, if_false]
  · refine fri.up (fri.up (fri.up (fri.up (fri.up q3 ?_) ?_) ?_) ?_) ?_ <;> (unfold PRw; omega)
theorem turns_loop {n m : Nat} (h0 : 0 < n) (hn : n ≤ 8) (hm : m < n) : ∀ (s t fuel : Nat) (σ : SS), t + s = m → s < fuel → σ.1 25 0 17 = nI n → ∃ σ', f_X8_findSides_100 fuel (nI m) (nI t) σ = some ((), σ') ∧ (∀ r, 58 ≤ r → r ≤ 62 → ∀ j, j < n → σ'.1 r 0 j = σ.1 r 0 ((j + s) % n)) ∧ fri PRw σ σ' := by
  intro s
  induction s with
  | zero =>
    intro t fuel σ ht hf hs
    obtain ⟨f, rfl⟩ : ∃ f, fuel = f + 1 := ⟨fuel - 1, by omega⟩
    rw [f_X8_findSides_100, if_pos (nI_le (by omega) (by omega))]
    exact ⟨σ, rfl, fun r _ _ j hj => by rw [Nat.add_zero, Nat.mod_eq_of_lt hj], fri.rf _ _⟩
  | succ s ih =>
    intro t fuel σ ht hf hs
    obtain ⟨f, rfl⟩ : ∃ f, fuel = f + 1 := ⟨fuel - 1, by omega⟩
    obtain ⟨σ1, q1, q2, q3⟩ := p_turnRows h0 hn hs
    obtain ⟨σ2, r1, r2, r3⟩ := ih (t + 1) f σ1 (by omega) (by omega) (by rw [q3.1 25 0 17 (by unfold PRw; omega)]; exact hs)
    refine ⟨σ2, ?_, fun r hr hr2 j hj => ?_, fri.tr q3 r3⟩
    · rw [f_X8_findSides_100, if_neg (nI_ge (by omega) (by omega)), q1, cal_some, lt_eq, nI_1]
      exact r1
    · rw [r2 r hr hr2 j hj, q2 r hr hr2 _ (Nat.mod_lt _ h0), Nat.mod_add_mod]
      rfl
/-- a row's first corner is ahead of another's -/
def lxI (σ : SS) (a b : Nat) : Prop := σ.1 59 0 a < σ.1 59 0 b ∨ (σ.1 59 0 a = σ.1 59 0 b ∧ σ.1 60 0 a < σ.1 60 0 b)
theorem lxI.tr {σ : SS} {a b c : Nat} (h1 : lxI σ a b) (h2 : lxI σ b c) : lxI σ a c := by
  rcases h1 with h1 | ⟨h1, h3⟩
  · rcases h2 with h2 | ⟨h2, -⟩
    · exact Or.inl (Int32.lt_trans h1 h2)
    · exact Or.inl (by rw [← h2]; exact h1)
  · rcases h2 with h2 | ⟨h2, h4⟩
    · exact Or.inl (by rw [h1]; exact h2)
    · exact Or.inr ⟨h1.trans h2, Int32.lt_trans h3 h4⟩
theorem first_loop {σ : SS} {n : Nat} (hn : n ≤ 8) (hs : σ.1 25 0 17 = nI n) : ∀ (s i fuel m : Nat), n ≤ i + s → i + s ≤ 9 → s < fuel → m < i → (∀ j, j < i → ¬ lxI σ j m) → (m < n ∨ m = 0) → ∃ m', f_X8_findSides_37 fuel (nI m) (nI i) σ = f_X8_findSides_98 (nI m') σ ∧ (∀ j, j < n → ¬ lxI σ j m') ∧ (m' < n ∨ m' = 0) := by
  intro s
  induction s with
  | zero =>
    intro i fuel m hi hi9 hf hm hj h0
    obtain ⟨f, rfl⟩ : ∃ f, fuel = f + 1 := ⟨fuel - 1, by omega⟩
    rw [f_X8_findSides_37, hs, if_pos (nI_le (by omega) (by omega))]
    exact ⟨m, rfl, fun j hjn => hj j (by omega), h0⟩
  | succ s ih =>
    intro i fuel m hi hi9 hf hm hj h0
    obtain ⟨f, rfl⟩ : ∃ f, fuel = f + 1 := ⟨fuel - 1, by omega⟩
    by_cases q : n ≤ i
    · rw [f_X8_findSides_37, hs, if_pos (nI_le q (by omega))]
      exact ⟨m, rfl, fun j hjn => hj j (by omega), h0⟩
    · obtain ⟨g1, g2⟩ := n8 (show i < 8 by omega)
      obtain ⟨g3, g4⟩ := n8 (show m < 8 by omega)
      rw [f_X8_findSides_37, hs, if_neg (nI_ge (by omega) (by omega)), chk_p g1, chk_p g3, g2, g4]
      have keep : ¬ lxI σ i m → ∃ m', f_X8_findSides_92 (f_X8_findSides_37 f) (nI m) (nI i) σ = f_X8_findSides_98 (nI m') σ ∧ (∀ j, j < n → ¬ lxI σ j m') ∧ (m' < n ∨ m' = 0) := by
        intro hk
        obtain ⟨m', r1, r2⟩ := ih (i + 1) f m (by omega) (by omega) (by omega) (by omega) (fun j hji => by
          by_cases qq : j = i
          · rw [qq]; exact hk
          · exact hj j (by omega)) h0
        exact ⟨m', by rw [f_X8_findSides_92, lt_eq, nI_1]; exact r1, r2⟩
      have take : lxI σ i m → ∃ m', f_X8_findSides_90 (f_X8_findSides_37 f) (nI i) σ = f_X8_findSides_98 (nI m') σ ∧ (∀ j, j < n → ¬ lxI σ j m') ∧ (m' < n ∨ m' = 0) := by
        intro hk
        obtain ⟨m', r1, r2⟩ := ih (i + 1) f i (by omega) (by omega) (by omega) (by omega) (fun j hji => by
          by_cases qq : j = i
          · rw [qq]
            intro z
            rcases z with z | ⟨-, z⟩
            · exact Int32.lt_irrefl z
            · exact Int32.lt_irrefl z
          · exact fun z => hj j (by omega) (z.tr hk)) (by omega)
        exact ⟨m', by rw [f_X8_findSides_90, f_X8_findSides_92, lt_eq, nI_1]; exact r1, r2⟩
      by_cases q1 : σ.1 59 0 i < σ.1 59 0 m
      · rw [if_pos q1]
        exact take (Or.inl q1)
      · rw [if_neg q1, chk_p g1, chk_p g3]
        by_cases q2 : σ.1 59 0 i = σ.1 59 0 m
        · rw [if_pos q2, chk_p g1, chk_p g3]
          by_cases q3 : σ.1 60 0 m ≤ σ.1 60 0 i
          · rw [if_pos q3]
            refine keep (fun z => ?_)
            rcases z with z | ⟨-, z⟩
            · exact q1 z
            · exact Int32.not_lt.mpr q3 z
          · rw [if_neg q3]
            exact take (Or.inr ⟨q2, Int32.not_le.mp q3⟩)
        · rw [if_neg q2]
          refine keep (fun z => ?_)
          rcases z with z | ⟨z, -⟩
          · exact q1 z
          · exact q2 z
/-- the rows are turned so that the first corner comes first -/
theorem p_rows {σ : SS} {n : Nat} (hn : n ≤ 8) (hs : σ.1 25 0 17 = nI n) : ∃ σ' m, f_X8_findSides_33 σ = some ((), σ') ∧ (∀ j, j < n → ¬ lxI σ j m) ∧ (m < n ∨ m = 0) ∧ (∀ r, 58 ≤ r → r ≤ 62 → ∀ j, j < n → σ'.1 r 0 j = σ.1 r 0 ((j + m) % n)) ∧ fri PRw σ σ' := by
  obtain ⟨m, q1, q2, q3⟩ := first_loop hn hs 8 1 FU 0 (by omega) (by omega) (by show 8 < 5000; omega) (by omega) (fun j hj => by
    have : j = 0 := by omega
    rw [this]
    intro z
    rcases z with z | ⟨-, z⟩
    · exact Int32.lt_irrefl z
    · exact Int32.lt_irrefl z) (Or.inr rfl)
  have e : f_X8_findSides_33 σ = f_X8_findSides_37 FU (nI 0) (nI 1) σ := by
    have g3 : nI 1 = (1 : Int32) := by decide
    rw [f_X8_findSides_33, nI_0, g3]
  have e98 : f_X8_findSides_98 (nI m) σ = f_X8_findSides_100 FU (nI m) (nI 0) σ := by
    rw [f_X8_findSides_98, nI_0]
  by_cases h0 : n = 0
  · subst h0
    have : m = 0 := by omega
    subst this
    refine ⟨σ, 0, ?_, q2, q3, fun r _ _ j hj => absurd hj (Nat.not_lt_zero _), fri.rf _ _⟩
    rw [e, q1, e98]
    obtain ⟨f, hf⟩ : ∃ f, FU = f + 1 := ⟨4999, rfl⟩
    rw [hf, f_X8_findSides_100, if_pos (by decide)]
  · obtain ⟨σ', r1, r2, r3⟩ := turns_loop (n := n) (m := m) (by omega) hn (by omega) m 0 FU σ (by omega) (by show m < 5000; omega) hs
    exact ⟨σ', m, by rw [e, q1, e98]; exact r1, q2, q3, r2, r3⟩
