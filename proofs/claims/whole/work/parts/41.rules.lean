/-! ===== PURE: in, rules ===== -/
theorem p_in64 (a b c : Int64) (σ : SS) : f_X8_in a b c σ = some (if b ≤ a ∧ a ≤ c then 1 else 0, σ) := by
  unfold f_X8_in lg_cmp
  by_cases h1 : b ≤ a
  · have e1 : ¬ ((if b < a then (1 : Int32) else if a = b then 0 else -1) < 0) := by
      by_cases h2 : b < a
      · rw [if_pos h2]; decide
      · have h3 : a = b := Int64.le_antisymm (Int64.not_lt.mp h2) h1
        rw [if_neg h2, if_pos h3]; decide
    rw [if_neg e1]
    by_cases h4 : a ≤ c
    · have e2 : ¬ (0 < (if c < a then (1 : Int32) else if a = c then 0 else -1)) := by
        rw [if_neg (Int64.not_lt.mpr h4)]
        by_cases h5 : a = c
        · rw [if_pos h5]; decide
        · rw [if_neg h5]; decide
      rw [if_neg e2, if_pos ⟨h1, h4⟩]
    · have e2 : 0 < (if c < a then (1 : Int32) else if a = c then 0 else -1) := by
        rw [if_pos (Int64.not_le.mp h4)]; decide
      rw [if_pos e2, if_neg (fun q => h4 q.2)]
  · have e1 : (if b < a then (1 : Int32) else if a = b then 0 else -1) < 0 := by
      have h2 : ¬ b < a := fun q => h1 (Int64.le_of_lt q)
      have h3 : ¬ a = b := fun q => h1 (by rw [q]; exact Int64.le_refl _)
      rw [if_neg h2, if_neg h3]; decide
    rw [if_pos e1, if_neg (fun q => h1 q.1)]
theorem i64_le (a b : Int32) : a.toInt64 ≤ b.toInt64 ↔ a ≤ b := by rw [Int64.le_iff_toInt_le, Int32.le_iff_toInt_le, Int32.toInt_toInt64, Int32.toInt_toInt64]
theorem p_in (a b c : Int32) (σ : SS) : f_X8_in a.toInt64 b.toInt64 c.toInt64 σ = some (if b ≤ a ∧ a ≤ c then 1 else 0, σ) := by
  rw [p_in64]
  simp only [i64_le]
theorem c64_0 : (0 : Int64) = (0 : Int32).toInt64 := by decide
theorem c64_1 : (1 : Int64) = (1 : Int32).toInt64 := by decide
theorem c64_3 : (3 : Int64) = (3 : Int32).toInt64 := by decide
theorem c64_4 : (4 : Int64) = (4 : Int32).toInt64 := by decide
theorem c64_5 : (5 : Int64) = (5 : Int32).toInt64 := by decide
theorem c64_7 : (7 : Int64) = (7 : Int32).toInt64 := by decide
theorem c64_9 : (9 : Int64) = (9 : Int32).toInt64 := by decide
theorem c64_99 : (99 : Int64) = (99 : Int32).toInt64 := by decide
/-- a test that answers 0 or 1 -/
theorem t01 {α : Type} {c : Prop} [Decidable c] {A B : α} : (if (if c then (1 : Int32) else 0) = 0 then A else B) = if c then B else A := by
  by_cases h : c
  · rw [if_pos h, if_pos h, if_neg (by decide)]
  · rw [if_neg h, if_neg h, if_pos rfl]
theorem cal_some {α β : Type} {q : β} {σ : SS} {K : β → SS → Option α} : cal (some (q, σ)) K = K q σ := rfl
/-- rule(): the class's and the model's rows grow alike -/
def okRule (a b c d : Int32) : Prop := ((0 : Int32) ≤ a ∧ a ≤ 9) ∧ ((0 : Int32) ≤ b ∧ b ≤ 9) ∧ ((1 : Int32) ≤ c ∧ c ≤ 99) ∧ ((0 : Int32) ≤ d ∧ d ≤ 7)
theorem p_X7_rule_bad {a b c d : Int32} {σ : SS} (h : ¬ okRule a b c d) : f_X7_rule a b c d σ = some (-1, σ) := by
  unfold f_X7_rule
  simp only [p_isFrom, cal_some, t01]
  by_cases h1 : (0 : Int32) ≤ a ∧ a ≤ 9
  · rw [if_pos h1]
    by_cases h2 : (0 : Int32) ≤ b ∧ b ≤ 9
    · rw [if_pos h2]
      by_cases h3 : (1 : Int32) ≤ c ∧ c ≤ 99
      · rw [if_pos h3, if_neg (fun h4 => h ⟨h1, h2, h3, h4⟩)]
      · rw [if_neg h3]
    · rw [if_neg h2]
  · rw [if_neg h1]
theorem p_X8_rule_bad {a b c d : Int32} {σ : SS} (h : ¬ okRule a b c d) : f_X8_rule a b c d σ = some (-1, σ) := by
  unfold f_X8_rule
  simp only [c64_0, c64_9, c64_1, c64_99, c64_7, p_in, cal_some, t01]
  by_cases h1 : (0 : Int32) ≤ a ∧ a ≤ 9
  · rw [if_pos h1]
    by_cases h2 : (0 : Int32) ≤ b ∧ b ≤ 9
    · rw [if_pos h2]
      by_cases h3 : (1 : Int32) ≤ c ∧ c ≤ 99
      · rw [if_pos h3, if_neg (fun h4 => h ⟨h1, h2, h3, h4⟩)]
      · rw [if_neg h3]
    · rw [if_neg h2]
  · rw [if_neg h1]
theorem n40 {n : Nat} (h : n < 40) : inr (nI n) 40 ∧ ix (nI n) = n ∧ nI n < (40 : Int32) ∧ ¬ nI n = (40 : Int32) := by
  refine ⟨nI_in h (by decide), nI_clamp (by omega), ?_, ?_⟩
  · exact nI_lt (b := 40) h (by decide)
  · intro e
    have := (nI_eq (a := n) (b := 40) (by omega) (by decide)).mp e
    omega
def rule7 (σ : SS) (n : Nat) (a b c d : Int32) : SS := up (up (up (up (up σ 8 0 n a) 9 0 n b) 10 0 n c) 11 0 n d) 7 0 4 (nI (n + 1))
def rule8 (σ : SS) (n : Nat) (a b c d : Int32) : SS := up (up (up (up (up σ 76 0 n a) 77 0 n b) 78 0 n c) 79 0 n d) 25 0 35 (nI (n + 1))
theorem p_X7_rule_full {a b c d : Int32} {σ : SS} (h : okRule a b c d) (hn : σ.1 7 0 4 = nI 40) : f_X7_rule a b c d σ = some (-3, σ) := by
  unfold f_X7_rule
  simp only [p_isFrom, cal_some, t01]
  rw [if_pos h.1, if_pos h.2.1, if_pos h.2.2.1, if_pos h.2.2.2]
  unfold f_X5_isFull
  rw [hn, if_neg (by decide)]
  rfl
theorem p_X8_rule_full {a b c d : Int32} {σ : SS} (h : okRule a b c d) (hn : σ.1 25 0 35 = nI 40) : f_X8_rule a b c d σ = some (-3, σ) := by
  unfold f_X8_rule
  simp only [c64_0, c64_9, c64_1, c64_99, c64_7, p_in, cal_some, t01]
  rw [if_pos h.1, if_pos h.2.1, if_pos h.2.2.1, if_pos h.2.2.2, hn, if_pos (by decide)]
theorem p_X7_rule_ok {a b c d : Int32} {σ : SS} {n : Nat} (h : okRule a b c d) (hl : n < 40) (hn : σ.1 7 0 4 = nI n) : f_X7_rule a b c d σ = some (nI n, rule7 σ n a b c d) := by
  obtain ⟨g1, g2, g3, g4⟩ := n40 hl
  unfold f_X7_rule
  simp only [p_isFrom, cal_some, t01]
  rw [if_pos h.1, if_pos h.2.1, if_pos h.2.2.1, if_pos h.2.2.2]
  unfold f_X5_isFull
  rw [hn, if_pos g3, cal_some, if_pos rfl]
  unfold f_X5_add
  simp (config := { decide := true }) only [lt_, up_rd, false_and, true_and, and_false, if_false, hn, g2, chk_p g1, cal_some, nI_1]
  rfl
theorem p_X8_rule_ok {a b c d : Int32} {σ : SS} {n : Nat} (h : okRule a b c d) (hl : n < 40) (hn : σ.1 25 0 35 = nI n) : f_X8_rule a b c d σ = some (nI n, rule8 σ n a b c d) := by
  obtain ⟨g1, g2, g3, g4⟩ := n40 hl
  unfold f_X8_rule
  simp only [c64_0, c64_9, c64_1, c64_99, c64_7, p_in, cal_some, t01]
  rw [if_pos h.1, if_pos h.2.1, if_pos h.2.2.1, if_pos h.2.2.2, hn, if_neg g4]
  simp (config := { decide := true }) only [lt_, up_rd, false_and, true_and, and_false, if_false, if_true, hn, g2, chk_p g1, cal_some, nI_1, nI_pred]
  rfl
/-! steps: from a kind to itself, its family, stone -/
def stp (k u : Nat) : Option Nat := if u = k then some 0 else if u = 6 + k / 2 then some 1 else if u = 9 then some 2 else none
def st7 (o : Option Nat) : Int32 := match o with
  | some a => nI a
  | none => -1
def st8 (o : Option Nat) : Int32 := match o with
  | some a => nI a
  | none => -4
theorem ite_some {α : Type} {c : Prop} [Decidable c] {x y : α} {σ : SS} : (if c then some (x, σ) else some (y, σ)) = some (if c then x else y, σ) := by split <;> rfl
theorem p_stepsTo {k u : Nat} (hk : k < 6) (hu : u < 10) (σ : SS) : f_X5_stepsTo (nI k) (nI u) σ = some (st7 (stp k u), σ) := by
  have key : ∀ k, k < 6 → ∀ u, u < 10 → (if nI u = nI k then (0 : Int32) else if nI u = (6 + nI k / 2 : Int32) then 1 else if nI u = 9 then 2 else -1) = st7 (stp k u) := by decide +kernel
  rw [← key k hk u hu]
  unfold f_X5_stepsTo f_X7_familyOf
  simp only [cal_some, ite_some]
theorem p_steps {k u : Nat} (hk : k < 6) (hu : u < 10) (σ : SS) : f_X8_steps (nI k) (nI u) σ = some (st8 (stp k u), σ) := by
  have key : ∀ k, k < 6 → ∀ u, u < 10 → (if nI u = nI k then (0 : Int32) else if nI u = (if (2 : Int32) ≤ nI k then (if (4 : Int32) ≤ nI k then 8 else 7) else 6 : Int32) then 1 else if nI u = 9 then 2 else -4) = st8 (stp k u) := by decide +kernel
  rw [← key k hk u hu]
  unfold f_X8_steps f_X8_family
  simp only [ite_some, cal_some]
/-- a rule counts: its steps -/
def cnt (on : Nat → Bool) (fa fb fp : Nat → Nat) (k l j : Nat) : Option (Nat × Nat) := if on (fp j) then (match stp k (fa j), stp l (fb j) with
  | some a, some b => some (a, b)
  | _, _ => none) else none
theorem stp_le {k u a : Nat} (h : stp k u = some a) : a ≤ 2 := by
  unfold stp at h
  split at h
  · cases h; decide
  · split at h
    · cases h; decide
    · split at h
      · cases h; decide
      · cases h
/-- what the two sides hold of the rules: how many, their kinds, joints, packs; which packs are on -/
def RU (σ : SS) (n : Nat) (fa fb fj fp : Nat → Nat) (on : Nat → Bool) : Prop :=
  (1 ≤ n ∧ n ≤ 40) ∧ (σ.1 7 0 4 = nI n ∧ σ.1 25 0 35 = nI n) ∧
  (∀ j, j < n → (fa j < 10 ∧ fb j < 10 ∧ 1 ≤ fj j ∧ fj j < 100 ∧ fp j < 8) ∧ (σ.1 8 0 j = nI (fa j) ∧ σ.1 9 0 j = nI (fb j) ∧ σ.1 10 0 j = nI (fj j) ∧ σ.1 11 0 j = nI (fp j)) ∧ (σ.1 76 0 j = nI (fa j) ∧ σ.1 77 0 j = nI (fb j) ∧ σ.1 78 0 j = nI (fj j) ∧ σ.1 79 0 j = nI (fp j))) ∧
  (∀ q, q < 8 → σ.1 80 0 q = (if on q then 1 else 0) ∧ (σ.1 7 0 5 >>> (nI q &&& 31)) &&& 1 = (if on q then 1 else 0)) ∧
  (fa 0 = 9 ∧ fb 0 = 9 ∧ fp 0 = 0 ∧ on 0 = true)
theorem p_counts {σ : SS} {n : Nat} {fa fb fj fp : Nat → Nat} {on : Nat → Bool} (h : RU σ n fa fb fj fp on) {k l j : Nat} (hk : k < 6) (hl : l < 6) (hj : j < n) : f_X5_counts (nI j) (nI k) (nI l) σ = some (if (cnt on fa fb fp k l j).isSome then 1 else 0, σ) := by
  obtain ⟨⟨h1, h2⟩, -, h3, h4, -⟩ := h
  obtain ⟨⟨a1, a2, -, -, a5⟩, ⟨b1, b2, -, b4⟩, -⟩ := h3 j hj
  obtain ⟨g1, g2, -, -⟩ := n40 (show j < 40 by omega)
  have hq := (h4 (fp j) a5).2
  unfold f_X5_counts cnt
  rw [chk_p g1, g2, b4, hq]
  cases hon : on (fp j) with
  | false =>
    simp only [Bool.false_eq_true, if_false, if_true]
    unfold f_X5_counts_21
    rfl
  | true =>
    simp only [if_true]
    rw [if_neg (by decide)]
    unfold f_X5_counts_21
    rw [if_neg (by decide), chk_p g1, g2, b1, p_stepsTo hk a1, cal_some]
    cases ha : stp k (fa j) with
    | none => rfl
    | some x =>
      have hx := stp_le ha
      rw [if_neg (by
        show ¬ nI x = -1
        rcases (show x = 0 ∨ x = 1 ∨ x = 2 by omega) with rfl | rfl | rfl <;> decide), chk_p g1, b2, p_stepsTo hl a2, cal_some]
      cases hb : stp l (fb j) with
      | none => rfl
      | some y =>
        have hy := stp_le hb
        rw [if_neg (by
          show ¬ nI y = -1
          rcases (show y = 0 ∨ y = 1 ∨ y = 2 by omega) with rfl | rfl | rfl <;> decide)]
        rfl
/-- a counting rule's rank, as the class tells it -/
def rk7 (q : Nat × Nat) (j : Nat) : Nat := ((q.1 + q.2) * 3 + q.1) * 40 + 39 - j
def rk8 (q : Nat × Nat) (j : Nat) : Nat := 1000 * (q.1 + q.2) + 100 * q.1 + 50 - j
theorem cnt_some {on : Nat → Bool} {fa fb fp : Nat → Nat} {k l j : Nat} {q : Nat × Nat} (h : cnt on fa fb fp k l j = some q) : on (fp j) = true ∧ stp k (fa j) = some q.1 ∧ stp l (fb j) = some q.2 := by
  unfold cnt at h
  split at h
  · rename_i hon
    split at h
    · rename_i a b ha hb
      cases h
      exact ⟨hon, ha, hb⟩
    · cases h
  · cases h
theorem p_rankOf {σ : SS} {n : Nat} {fa fb fj fp : Nat → Nat} {on : Nat → Bool} (h : RU σ n fa fb fj fp on) {k l j : Nat} (hk : k < 6) (hl : l < 6) (hj : j < n) {q : Nat × Nat} (hq : cnt on fa fb fp k l j = some q) : f_X5_rankOf (nI j) (nI k) (nI l) σ = some (nI (rk7 q j), σ) := by
  obtain ⟨⟨h1, h2⟩, -, h3, h4, -⟩ := h
  obtain ⟨⟨a1, a2, -, -, a5⟩, ⟨b1, b2, -, b4⟩, -⟩ := h3 j hj
  obtain ⟨g1, g2, -, -⟩ := n40 (show j < 40 by omega)
  obtain ⟨-, c1, c2⟩ := cnt_some hq
  unfold f_X5_rankOf
  rw [chk_p g1, g2, b1, p_stepsTo hk a1, cal_some, chk_p g1, b2, p_stepsTo hl a2, cal_some, c1, c2]
  unfold lt_
  show some ((((((nI q.1 + nI q.2) * nI 3) + nI q.1) * nI 40 + nI 40) - nI 1) - nI j, σ) = _
  rw [nI_add, pk_mul, nI_add, pk_mul, nI_add, pk_sub (by omega), pk_sub (by omega)]
  rfl
theorem p_rank {σ : SS} {n : Nat} {fa fb fj fp : Nat → Nat} {on : Nat → Bool} (h : RU σ n fa fb fj fp on) {k l j : Nat} (hk : k < 6) (hl : l < 6) (hj : j < n) : f_X8_rank (nI j) (nI k) (nI l) σ = some (match cnt on fa fb fp k l j with
    | some q => nI (rk8 q j)
    | none => -4, σ) := by
  obtain ⟨⟨h1, h2⟩, -, h3, h4, -⟩ := h
  obtain ⟨⟨a1, a2, -, -, a5⟩, -, ⟨b1, b2, -, b4⟩⟩ := h3 j hj
  obtain ⟨g1, g2, -, -⟩ := n40 (show j < 40 by omega)
  have hp := (h4 (fp j) a5).1
  have i8 : inr (nI (fp j)) 8 := nI_in a5 (by decide)
  have c8 : ix (nI (fp j)) = fp j := nI_clamp (by omega)
  unfold f_X8_rank cnt f_X8_rank_52
  rw [chk_p g1, g2, b1, p_steps hk a1, cal_some, chk_p g1, b2, p_steps hl a2, cal_some, chk_p g1, b4, chk_p i8, c8, hp]
  cases hon : on (fp j) with
  | false => rfl
  | true =>
    simp only [if_true]
    rw [if_neg (by decide)]
    cases ha : stp k (fa j) with
    | none => rfl
    | some x =>
      have hx := stp_le ha
      rw [if_neg (by
        show ¬ nI x = -4
        rcases (show x = 0 ∨ x = 1 ∨ x = 2 by omega) with rfl | rfl | rfl <;> decide)]
      cases hb : stp l (fb j) with
      | none => rfl
      | some y =>
        have hy := stp_le hb
        rw [if_neg (by
          show ¬ nI y = -4
          rcases (show y = 0 ∨ y = 1 ∨ y = 2 by omega) with rfl | rfl | rfl <;> decide)]
        show some (((nI 1000 * (nI x + nI y)) + (nI 100 * nI x)) + nI 50 - nI j, σ) = _
        rw [nI_add, pk_mul, pk_mul, nI_add, nI_add, pk_sub (by omega)]
        rfl
