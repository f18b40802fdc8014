/-! ===== PURE: treats(), undecided ===== -/
def anyF (P : Nat → Bool) : Nat → Nat → Bool
  | 0, _ => false
  | m + 1, t => P t || anyF P m (t + 1)
def unP (on : Nat → Bool) (fa fb fp : Nat → Nat) (k l a0 s0 j : Nat) : Bool := match cnt on fa fb fp k l j with
  | some q => decide (¬ q.1 = a0) && decide (q.1 + q.2 = s0)
  | none => false
theorem small_eq {x y : Nat} (hx : x ≤ 100) (hy : y ≤ 100) : nI x = nI y ↔ x = y := nI_eq (by omega) (by omega)
theorem p_decide_loop {σ : SS} {n : Nat} {fa fb fj fp : Nat → Nat} {on : Nat → Bool} (h : RU σ n fa fb fj fp on) {k l a0 s0 : Nat} {v4 : Int32} (hk : k < 6) (hl : l < 6) (ha0 : a0 ≤ 2) (hs0 : s0 ≤ 4) : ∀ (m t fuel : Nat), t + m = n → m < fuel → f_X5_decide_56 fuel (nI k) (nI l) v4 (nI a0) (nI s0) (nI t) σ = some (if anyF (unP on fa fb fp k l a0 s0) m t then -5 else v4, σ) := by
  have hn := h.1
  have hsz := h.2.1.1
  intro m
  induction m with
  | zero =>
    intro t fuel ht hf
    obtain ⟨f, rfl⟩ : ∃ f, fuel = f + 1 := ⟨fuel - 1, by omega⟩
    rw [f_X5_decide_56, hsz, if_pos (nI_le (by omega) (by omega))]
    rfl
  | succ m ih =>
    intro t fuel ht hf
    obtain ⟨f, rfl⟩ : ∃ f, fuel = f + 1 := ⟨fuel - 1, by omega⟩
    have hlt : t < n := by omega
    obtain ⟨⟨a1, a2, -, -, a5⟩, ⟨b1, b2, -, b4⟩, -⟩ := h.2.2.1 t hlt
    obtain ⟨g1, g2, -, -⟩ := n40 (show t < 40 by omega)
    have next : unP on fa fb fp k l a0 s0 t = false → f_X5_decide_118 (f_X5_decide_56 f) (nI k) (nI l) v4 (nI a0) (nI s0) (nI t) σ = some (if anyF (unP on fa fb fp k l a0 s0) (m + 1) t then -5 else v4, σ) := by
      intro hu
      show f_X5_decide_56 f (nI k) (nI l) v4 (nI a0) (nI s0) (nI t + 1) σ = _
      rw [nI_1, ih (t + 1) f (by omega) (by omega)]
      unfold anyF
      rw [hu, Bool.false_or]
      cases m <;> rfl
    rw [f_X5_decide_56, hsz, if_neg (nI_ge hlt (by omega)), p_counts h hk hl hlt, cal_some, t01]
    cases hc : cnt on fa fb fp k l t with
    | none =>
      rw [if_neg (by simp)]
      exact next (by unfold unP; rw [hc])
    | some q =>
      obtain ⟨-, c1, c2⟩ := cnt_some hc
      have hq1 := stp_le c1
      have hq2 := stp_le c2
      rw [if_pos (show (some q).isSome = true from rfl), chk_p g1, g2, b1, p_stepsTo hk a1, cal_some, c1]
      show (if nI q.1 = nI a0 then _ else _) = _
      by_cases e1 : q.1 = a0
      · rw [if_pos (by rw [e1])]
        exact next (by unfold unP; rw [hc]; simp [e1])
      · rw [if_neg (fun z => e1 ((small_eq (by omega) (by omega)).mp z)), chk_p g1, b2, p_stepsTo hl a2, cal_some, c2]
        show (if nI q.1 + nI q.2 = nI s0 then _ else _) = _
        rw [nI_add]
        by_cases e2 : q.1 + q.2 = s0
        · rw [if_pos (by rw [e2])]
          have hu : unP on fa fb fp k l a0 s0 t = true := by unfold unP; rw [hc]; simp [e1, e2]
          unfold anyF
          rw [hu]
          rfl
        · rw [if_neg (fun z => e2 ((small_eq (by omega) (by omega)).mp z))]
          exact next (by unfold unP; rw [hc]; simp [e2])
theorem p_treating_loop {σ : SS} {n : Nat} {fa fb fj fp : Nat → Nat} {on : Nat → Bool} (h : RU σ n fa fb fj fp on) {k l a0 s0 : Nat} {v3 : Int32} (hk : k < 6) (hl : l < 6) (ha0 : a0 ≤ 2) (hs0 : s0 ≤ 4) : ∀ (m t fuel : Nat), t + m = n → m < fuel → f_X8_treating_38 fuel (nI k) (nI l) v3 (nI a0) (nI s0) (nI t) σ = some (if anyF (unP on fa fb fp k l a0 s0) m t then -5 else v3, σ) := by
  have hn := h.1
  have hsz := h.2.1.2
  intro m
  induction m with
  | zero =>
    intro t fuel ht hf
    obtain ⟨f, rfl⟩ : ∃ f, fuel = f + 1 := ⟨fuel - 1, by omega⟩
    rw [f_X8_treating_38, hsz, if_pos (nI_le (by omega) (by omega))]
    rfl
  | succ m ih =>
    intro t fuel ht hf
    obtain ⟨f, rfl⟩ : ∃ f, fuel = f + 1 := ⟨fuel - 1, by omega⟩
    have hlt : t < n := by omega
    obtain ⟨⟨a1, a2, -, -, a5⟩, -, ⟨b1, b2, -, b4⟩⟩ := h.2.2.1 t hlt
    obtain ⟨g1, g2, -, -⟩ := n40 (show t < 40 by omega)
    have next : unP on fa fb fp k l a0 s0 t = false → f_X8_treating_107 (f_X8_treating_38 f) (nI k) (nI l) v3 (nI a0) (nI s0) (nI t) σ = some (if anyF (unP on fa fb fp k l a0 s0) (m + 1) t then -5 else v3, σ) := by
      intro hu
      show f_X8_treating_38 f (nI k) (nI l) v3 (nI a0) (nI s0) (nI t + 1) σ = _
      rw [nI_1, ih (t + 1) f (by omega) (by omega)]
      unfold anyF
      rw [hu, Bool.false_or]
      cases m <;> rfl
    rw [f_X8_treating_38, hsz, if_neg (nI_ge hlt (by omega)), p_rank h hk hl hlt, cal_some]
    cases hc : cnt on fa fb fp k l t with
    | none =>
      rw [if_pos rfl]
      exact next (by unfold unP; rw [hc])
    | some q =>
      obtain ⟨-, c1, c2⟩ := cnt_some hc
      have hq1 := stp_le c1
      have hq2 := stp_le c2
      have hw := rk8_lt hc
      simp only
      rw [if_neg (nI_m4 (by omega)), chk_p g1, g2, b1, p_steps hk a1, cal_some, chk_p g1, b2, p_steps hl a2, cal_some, c1, c2]
      show (if nI q.1 + nI q.2 = nI s0 then _ else _) = _
      rw [nI_add]
      by_cases e2 : q.1 + q.2 = s0
      · rw [if_pos (by rw [e2]), chk_p g1, b1, p_steps hk a1, cal_some, c1]
        show (if nI q.1 = nI a0 then _ else _) = _
        by_cases e1 : q.1 = a0
        · rw [if_pos (by rw [e1])]
          exact next (by unfold unP; rw [hc]; simp [e1])
        · rw [if_neg (fun z => e1 ((small_eq (by omega) (by omega)).mp z))]
          have hu : unP on fa fb fp k l a0 s0 t = true := by unfold unP; rw [hc]; simp [e1, e2]
          unfold anyF
          rw [hu]
          rfl
      · rw [if_neg (fun z => e2 ((small_eq (by omega) (by omega)).mp z))]
        exact next (by unfold unP; rw [hc]; simp [e2])
