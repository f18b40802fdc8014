/-! ===== PURE: treats() alike ===== -/
/-- rule 0 counts always -/
theorem cnt0 {σ : SS} {n : Nat} {fa fb fj fp : Nat → Nat} {on : Nat → Bool} (h : RU σ n fa fb fj fp on) {k l : Nat} (hk : k < 6) (hl : l < 6) : ∃ q, cnt on fa fb fp k l 0 = some q := by
  obtain ⟨h1, h2, h3, h4⟩ := h.2.2.2.2
  have e : ∀ k, k < 6 → stp k 9 = some 2 := by decide +kernel
  unfold cnt
  rw [h3, h4, h1, h2, e k hk, e l hl]
  exact ⟨(2, 2), rfl⟩
/-- what treats() answers for two kinds -/
def trt (on : Nat → Bool) (fa fb fp : Nat → Nat) (n k l : Nat) : Int32 := match ith on fa fb fp n k l 0 with
  | some j => match cnt on fa fb fp k l j with
    | some q => if anyF (unP on fa fb fp k l q.1 (q.1 + q.2)) n 0 then -5 else nI j
    | none => -4
  | none => -4
theorem ith0 {σ : SS} {n : Nat} {fa fb fj fp : Nat → Nat} {on : Nat → Bool} (h : RU σ n fa fb fj fp on) {k l : Nat} (hk : k < 6) (hl : l < 6) : ∃ j q, j < n ∧ cnt on fa fb fp k l j = some q ∧ ith on fa fb fp n k l 0 = some j ∧ mfold 0 (gr on fa fb fp k l) n = some (rk7 q j) ∧ 39 - rk7 q j % 40 = j := by
  have hn := h.1
  obtain ⟨q, hq⟩ := cnt0 h hk hl
  obtain ⟨b, hb, -⟩ := mfold_le (lo := 0) (n := n) (show 0 < n by omega) (gr_of hq) (Nat.zero_le _)
  have ho : ordr (gr on fa fb fp k l) n 0 0 = some b := hb
  obtain ⟨j, q', g1, g2, g3, g4, -⟩ := ith_at hn.2 ho
  refine ⟨j, q', g1, g2, ?_, by rw [hb, g3], by rw [← g3]; exact g4⟩
  unfold ith
  rw [ho]
  show some (39 - b % 40) = some j
  rw [g4]
theorem p_decide {σ : SS} {n : Nat} {fa fb fj fp : Nat → Nat} {on : Nat → Bool} (h : RU σ n fa fb fj fp on) {k l : Nat} (hk : k < 6) (hl : l < 6) : f_X5_decide (nI k) (nI l) σ = some (trt on fa fb fp n k l, σ) := by
  have hn := h.1
  obtain ⟨j, q, hj, hq, hi, hm, hnum⟩ := ith0 h hk hl
  obtain ⟨-, c1, c2⟩ := cnt_some hq
  have hq1 := stp_le c1
  have hq2 := stp_le c2
  obtain ⟨⟨a1, a2, -, -, a5⟩, ⟨b1, b2, -, b4⟩, -⟩ := h.2.2.1 j hj
  obtain ⟨g1, g2, -, -⟩ := n40 (show j < 40 by omega)
  have hr := gr_lt (gr_of hq)
  have hra := p_rankAfter (lo := 0) h hk hl (by omega)
  unfold f_X5_decide
  rw [show (-1 : Int32) = iz (((0 : Nat) : Int) - 1) from by decide, hra, cal_some, hm]
  show (if nI (rk7 q j) = -4 then _ else _) = _
  rw [if_neg (nI_m4 (by omega))]
  show cal (f_X5_numberOf (nI (rk7 q j)) σ) _ = _
  rw [p_numberOf hr, cal_some, hnum, chk_p g1, g2, b1, p_stepsTo hk a1, cal_some, chk_p g1, b2, p_stepsTo hl a2, cal_some, c1, c2]
  show f_X5_decide_56 FU (nI k) (nI l) (nI j) (nI q.1) (nI q.1 + nI q.2) (nI 0) σ = _
  rw [nI_add, p_decide_loop h hk hl hq1 (show q.1 + q.2 ≤ 4 by omega) n 0 FU (by omega) (by show n < 5000; omega)]
  unfold trt
  rw [hi]
  simp only
  rw [hq]
theorem p_treating {σ : SS} {n : Nat} {fa fb fj fp : Nat → Nat} {on : Nat → Bool} (h : RU σ n fa fb fj fp on) {k l : Nat} (hk : k < 6) (hl : l < 6) : f_X8_treating (nI k) (nI l) σ = some (trt on fa fb fp n k l, σ) := by
  have hn := h.1
  obtain ⟨j, q, hj, hq, hi, hm, hnum⟩ := ith0 h hk hl
  obtain ⟨-, c1, c2⟩ := cnt_some hq
  have hq1 := stp_le c1
  have hq2 := stp_le c2
  obtain ⟨⟨a1, a2, -, -, a5⟩, -, ⟨b1, b2, -, b4⟩⟩ := h.2.2.1 j hj
  obtain ⟨g1, g2, -, -⟩ := n40 (show j < 40 by omega)
  have hnth : f_X8_nth (nI k) (nI l) 0 σ = some (bo (ith on fa fb fp n k l 0), σ) := p_nth (i := 0) h hk hl (by decide)
  unfold f_X8_treating
  rw [hnth, cal_some, hi]
  show chk (inr (nI j) 40) _ = _
  rw [chk_p g1]
  show cal (f_X8_steps (nI k) (σ.1 76 0 (ix (nI j))) σ) _ = _
  rw [g2, b1, p_steps hk a1, cal_some]
  show chk (inr (nI j) 40) _ = _
  rw [chk_p g1]
  show cal (f_X8_steps (nI l) (σ.1 77 0 (ix (nI j))) σ) _ = _
  rw [g2, b2, p_steps hl a2, cal_some, c1, c2]
  show f_X8_treating_38 FU (nI k) (nI l) (nI j) (nI q.1) (nI q.1 + nI q.2) (nI 0) σ = _
  rw [nI_add, p_treating_loop h hk hl hq1 (show q.1 + q.2 ≤ 4 by omega) n 0 FU (by omega) (by show n < 5000; omega)]
  unfold trt
  rw [hi]
  simp only
  rw [hq]
theorem q_treats {σ : SS} {n : Nat} {fa fb fj fp : Nat → Nat} {on : Nat → Bool} (h : RU σ n fa fb fj fp on) (a b : Int32) : ∃ r, f_X7_treats a b σ = some (r, σ) ∧ f_X8_treats a b σ = some (r, σ) := by
  unfold f_X7_treats f_X8_treats
  simp only [p_isFrom, p_isKind, cal_some, t01]
  by_cases h1 : (0 : Int32) ≤ a ∧ a ≤ 5
  · simp only [if_pos h1]
    by_cases h2 : (0 : Int32) ≤ b ∧ b ≤ 5
    · simp only [if_pos h2]
      obtain ⟨k, hk, rfl⟩ := kind_of h1
      obtain ⟨l, hl, rfl⟩ := kind_of h2
      rw [p_decide h hk hl, p_treating h hk hl]
      exact ⟨_, rfl, rfl⟩
    · simp only [if_neg h2]
      exact ⟨_, rfl, rfl⟩
  · simp only [if_neg h1]
    exact ⟨_, rfl, rfl⟩
/-- undecided(): how many -/
def und1 (on : Nat → Bool) (fa fb fp : Nat → Nat) (n k : Nat) : Nat → Nat → Int32 → Int32
  | 0, _, c => c
  | m + 1, l, c => und1 on fa fb fp n k m (l + 1) (if trt on fa fb fp n k l = -5 then c + 1 else c)
def und2 (on : Nat → Bool) (fa fb fp : Nat → Nat) (n : Nat) : Nat → Nat → Int32 → Int32
  | 0, _, c => c
  | m + 1, k, c => und2 on fa fb fp n m (k + 1) (und1 on fa fb fp n k 6 0 c)
theorem six_le {t m : Nat} (h : t + m = 6) : ((6 : Int32) ≤ nI t) ↔ m = 0 := by
  have e : ((6 : Int32) ≤ nI t) ↔ 6 ≤ t := nI_leI (a := 6) (b := t) (by decide) (by omega)
  rw [e]
  omega
theorem p_und7_in {σ : SS} {n : Nat} {fa fb fj fp : Nat → Nat} {on : Nat → Bool} (h : RU σ n fa fb fj fp on) {k : Nat} (hk : k < 6) {K : Int32 → Int32 → SS → Option (Int32 × SS)} : ∀ (m t fuel : Nat) (c : Int32), t + m = 6 → m < fuel → f_X7_undecided_12 K fuel c (nI k) (nI t) σ = K (und1 on fa fb fp n k m t c) (nI (k + 1)) σ := by
  intro m
  induction m with
  | zero =>
    intro t fuel c ht hf
    obtain ⟨f, rfl⟩ : ∃ f, fuel = f + 1 := ⟨fuel - 1, by omega⟩
    rw [f_X7_undecided_12, if_pos ((six_le ht).mpr rfl)]
    show K c (nI k + 1) σ = _
    rw [nI_1]
    rfl
  | succ m ih =>
    intro t fuel c ht hf
    obtain ⟨f, rfl⟩ : ∃ f, fuel = f + 1 := ⟨fuel - 1, by omega⟩
    rw [f_X7_undecided_12, if_neg (fun z => by have := (six_le ht).mp z; omega), p_decide h hk (show t < 6 by omega), cal_some]
    unfold und1
    by_cases e : trt on fa fb fp n k t = -5
    · rw [if_pos e, if_pos e]
      show f_X7_undecided_12 K f (c + 1) (nI k) (nI t + 1) σ = _
      rw [nI_1]
      exact ih (t + 1) f (c + 1) (by omega) (by omega)
    · rw [if_neg e, if_neg e]
      show f_X7_undecided_12 K f c (nI k) (nI t + 1) σ = _
      rw [nI_1]
      exact ih (t + 1) f c (by omega) (by omega)
theorem p_und8_in {σ : SS} {n : Nat} {fa fb fj fp : Nat → Nat} {on : Nat → Bool} (h : RU σ n fa fb fj fp on) {k : Nat} (hk : k < 6) {K : Int32 → Int32 → SS → Option (Int32 × SS)} : ∀ (m t fuel : Nat) (c : Int32), t + m = 6 → m < fuel → f_X8_undecided_12 K fuel c (nI k) (nI t) σ = K (und1 on fa fb fp n k m t c) (nI (k + 1)) σ := by
  intro m
  induction m with
  | zero =>
    intro t fuel c ht hf
    obtain ⟨f, rfl⟩ : ∃ f, fuel = f + 1 := ⟨fuel - 1, by omega⟩
    rw [f_X8_undecided_12, if_pos ((six_le ht).mpr rfl)]
    show K c (nI k + 1) σ = _
    rw [nI_1]
    rfl
  | succ m ih =>
    intro t fuel c ht hf
    obtain ⟨f, rfl⟩ : ∃ f, fuel = f + 1 := ⟨fuel - 1, by omega⟩
    rw [f_X8_undecided_12, if_neg (fun z => by have := (six_le ht).mp z; omega), p_treating h hk (show t < 6 by omega), cal_some]
    unfold und1
    by_cases e : trt on fa fb fp n k t = -5
    · rw [if_pos e, if_pos e]
      show f_X8_undecided_12 K f (c + 1) (nI k) (nI t + 1) σ = _
      rw [nI_1]
      exact ih (t + 1) f (c + 1) (by omega) (by omega)
    · rw [if_neg e, if_neg e]
      show f_X8_undecided_12 K f (c + 0) (nI k) (nI t + 1) σ = _
      rw [nI_1, Int32.add_zero]
      exact ih (t + 1) f c (by omega) (by omega)
theorem p_und {σ : SS} {n : Nat} {fa fb fj fp : Nat → Nat} {on : Nat → Bool} (h : RU σ n fa fb fj fp on) : ∀ (m t fuel : Nat) (c : Int32), t + m = 6 → m < fuel → f_X7_undecided_4 fuel c (nI t) σ = some (und2 on fa fb fp n m t c, σ) ∧ f_X8_undecided_4 fuel c (nI t) σ = some (und2 on fa fb fp n m t c, σ) := by
  intro m
  induction m with
  | zero =>
    intro t fuel c ht hf
    obtain ⟨f, rfl⟩ : ∃ f, fuel = f + 1 := ⟨fuel - 1, by omega⟩
    rw [f_X7_undecided_4, f_X8_undecided_4, if_pos ((six_le ht).mpr rfl), if_pos ((six_le ht).mpr rfl)]
    exact ⟨rfl, rfl⟩
  | succ m ih =>
    intro t fuel c ht hf
    obtain ⟨f, rfl⟩ : ∃ f, fuel = f + 1 := ⟨fuel - 1, by omega⟩
    have e7 := p_und7_in (K := f_X7_undecided_4 f) h (show t < 6 by omega) 6 0 FU c (by omega) (by decide +kernel)
    have e8 := p_und8_in (K := f_X8_undecided_4 f) h (show t < 6 by omega) 6 0 FU c (by omega) (by decide +kernel)
    rw [f_X7_undecided_4, f_X8_undecided_4, if_neg (fun z => by have := (six_le ht).mp z; omega), if_neg (fun z => by have := (six_le ht).mp z; omega)]
    refine ⟨Eq.trans e7 ?_, Eq.trans e8 ?_⟩
    · exact (ih (t + 1) f _ (by omega) (by omega)).1
    · exact (ih (t + 1) f _ (by omega) (by omega)).2
theorem q_undecided {σ : SS} {n : Nat} {fa fb fj fp : Nat → Nat} {on : Nat → Bool} (h : RU σ n fa fb fj fp on) : ∃ r, f_X7_undecided σ = some (r, σ) ∧ f_X8_undecided σ = some (r, σ) := ⟨_, p_und h 6 0 FU 0 (by omega) (by decide +kernel)⟩
