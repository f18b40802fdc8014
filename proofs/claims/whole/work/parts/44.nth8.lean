/-! ===== PURE: the model's nth ===== -/
theorem rk_iff {a b c d i j : Nat} (ha : a ≤ 2) (hb : b ≤ 2) (hc : c ≤ 2) (hd : d ≤ 2) (hi : i < 40) (hj : j < 40) : rk8 (a, b) i < rk8 (c, d) j ↔ rk7 (a, b) i < rk7 (c, d) j := by
  unfold rk8 rk7
  rcases (show a = 0 ∨ a = 1 ∨ a = 2 by omega) with rfl | rfl | rfl <;> rcases (show b = 0 ∨ b = 1 ∨ b = 2 by omega) with rfl | rfl | rfl <;> rcases (show c = 0 ∨ c = 1 ∨ c = 2 by omega) with rfl | rfl | rfl <;> rcases (show d = 0 ∨ d = 1 ∨ d = 2 by omega) with rfl | rfl | rfl <;> simp only <;> omega
def gr8 (on : Nat → Bool) (fa fb fp : Nat → Nat) (k l j : Nat) : Option Nat := (cnt on fa fb fp k l j).map (fun q => rk8 q j)
theorem gr_inj {on : Nat → Bool} {fa fb fp : Nat → Nat} {k l : Nat} : ∀ j j' r, j < 40 → j' < 40 → gr on fa fb fp k l j = some r → gr on fa fb fp k l j' = some r → j = j' := by
  intro j j' r hj hj' h h'
  obtain ⟨q, h1, h2⟩ := Option.map_eq_some_iff.mp h
  obtain ⟨q', h1', h2'⟩ := Option.map_eq_some_iff.mp h'
  unfold rk7 at h2 h2'
  omega
theorem cn_iff {on : Nat → Bool} {fa fb fp : Nat → Nat} {k l j : Nat} {q : Nat × Nat} (hj : j < 40) (hq : cnt on fa fb fp k l j = some q) : ∀ (t : Nat), t ≤ 40 → cn (gr8 on fa fb fp k l) (rk8 q j) t = cn (gr on fa fb fp k l) (rk7 q j) t
  | 0, _ => rfl
  | t + 1, ht => by
    unfold cn
    rw [cn_iff hj hq t (by omega)]
    cases hc : cnt on fa fb fp k l t with
    | none => simp only [gr8, gr, hc, Option.map_none]
    | some p =>
      simp only [gr8, gr, hc, Option.map_some]
      obtain ⟨-, a1, a2⟩ := cnt_some hq
      obtain ⟨-, b1, b2⟩ := cnt_some hc
      have e := rk_iff (stp_le b1) (stp_le b2) (stp_le a1) (stp_le a2) (show t < 40 by omega) hj
      by_cases h : rk7 p t < rk7 q j
      · rw [if_pos h, if_pos (e.mpr h)]
      · rw [if_neg h, if_neg (fun z => h (e.mp z))]
theorem cn_le {g : Nat → Option Nat} {x : Nat} : ∀ {n : Nat}, cn g x n ≤ n
  | 0 => Nat.le_refl _
  | n + 1 => by
    unfold cn
    have := cn_le (g := g) (x := x) (n := n)
    cases g n with
    | none => simp only; omega
    | some r =>
      simp only
      split <;> omega
theorem rk8_lt {on : Nat → Bool} {fa fb fp : Nat → Nat} {k l j : Nat} {q : Nat × Nat} (hq : cnt on fa fb fp k l j = some q) : rk8 q j < 10000 := by
  obtain ⟨-, a1, a2⟩ := cnt_some hq
  have := stp_le a1
  have := stp_le a2
  unfold rk8
  omega
theorem nI_m4 {r : Nat} (h : r < 100000) : ¬ nI r = -4 := by
  intro e
  have e2 : iz (r : Int) = iz (-4) := by rw [← iz_nI]; exact e
  have := (iz_eq ⟨by omega, by omega⟩ ⟨by decide, by decide⟩).mp e2
  omega
theorem p_nth_in {σ : SS} {n : Nat} {fa fb fj fp : Nat → Nat} {on : Nat → Bool} (h : RU σ n fa fb fj fp on) {k l j : Nat} {v3 : Int32} {K : Int32 → Int32 → Int32 → Int32 → SS → Option (Int32 × SS)} {q : Nat × Nat} (hk : k < 6) (hl : l < 6) (hj : j < n) (hq : cnt on fa fb fp k l j = some q) : ∀ (m t fuel : Nat), t + m = n → m < fuel → f_X8_nth_28 K fuel (nI k) (nI l) v3 (nI j) (nI (rk8 q j)) (nI (cn (gr8 on fa fb fp k l) (rk8 q j) t)) (nI t) σ = f_X8_nth_84 K (nI k) (nI l) v3 (nI j) (nI (rk8 q j)) (nI (cn (gr8 on fa fb fp k l) (rk8 q j) n)) σ := by
  have hn := h.1
  have hsz := h.2.1.2
  have hw := rk8_lt hq
  intro m
  induction m with
  | zero =>
    intro t fuel ht hf
    obtain ⟨f, rfl⟩ : ∃ f, fuel = f + 1 := ⟨fuel - 1, by omega⟩
    rw [f_X8_nth_28, hsz, if_pos (nI_le (by omega) (by omega)), show t = n by omega]
  | succ m ih =>
    intro t fuel ht hf
    obtain ⟨f, rfl⟩ : ∃ f, fuel = f + 1 := ⟨fuel - 1, by omega⟩
    have hlt : t < n := by omega
    have step : ∀ c : Nat, cn (gr8 on fa fb fp k l) (rk8 q j) t + c = cn (gr8 on fa fb fp k l) (rk8 q j) (t + 1) → f_X8_nth_75 K (f_X8_nth_28 K f) (nI k) (nI l) v3 (nI j) (nI (rk8 q j)) (nI t) (nI (cn (gr8 on fa fb fp k l) (rk8 q j) t)) (nI c) σ = f_X8_nth_84 K (nI k) (nI l) v3 (nI j) (nI (rk8 q j)) (nI (cn (gr8 on fa fb fp k l) (rk8 q j) n)) σ := by
      intro c hc
      show f_X8_nth_28 K f (nI k) (nI l) v3 (nI j) (nI (rk8 q j)) (nI (cn (gr8 on fa fb fp k l) (rk8 q j) t) + nI c) (nI t + 1) σ = _
      rw [nI_add, nI_1, hc]
      exact ih (t + 1) f (by omega) (by omega)
    rw [f_X8_nth_28, hsz, if_neg (nI_ge hlt (by omega)), if_neg (nI_m4 (by omega)), p_rank h hk hl hlt, cal_some]
    cases hc : cnt on fa fb fp k l t with
    | none =>
      rw [if_pos rfl]
      refine step 0 ?_
      simp only [cn, gr8, hc, Option.map_none]
    | some p =>
      have hp := rk8_lt hc
      simp only
      rw [if_neg (nI_m4 (by omega))]
      by_cases h1 : rk8 q j ≤ rk8 p t
      · rw [if_pos (nI_le h1 (by omega))]
        refine step 0 ?_
        simp only [cn, gr8, hc, Option.map_some]
        rw [if_neg (by omega)]
      · rw [if_neg (nI_ge (by omega) (by omega))]
        refine step 1 ?_
        simp only [cn, gr8, hc, Option.map_some]
        rw [if_pos (by omega)]
/-- the first whose counting rule has i below it -/
theorem p_nth_loop {σ : SS} {n : Nat} {fa fb fj fp : Nat → Nat} {on : Nat → Bool} (h : RU σ n fa fb fj fp on) {k l i : Nat} (hk : k < 6) (hl : l < 6) (hi : i < 2 ^ 31) (res : Option Nat) (hyes : ∀ j0, res = some j0 → j0 < n ∧ ∃ q, cnt on fa fb fp k l j0 = some q ∧ cn (gr8 on fa fb fp k l) (rk8 q j0) n = i) (hno : ∀ j q, j < n → cnt on fa fb fp k l j = some q → cn (gr8 on fa fb fp k l) (rk8 q j) n = i → res = some j) : ∀ (m t fuel : Nat), t + m = n → m < fuel → (∀ j0, res = some j0 → t ≤ j0) → f_X8_nth_3 fuel (nI k) (nI l) (nI i) (nI t) σ = some (bo res, σ) := by
  have hn := h.1
  have hsz := h.2.1.2
  intro m
  induction m with
  | zero =>
    intro t fuel ht hf hle
    obtain ⟨f, rfl⟩ : ∃ f, fuel = f + 1 := ⟨fuel - 1, by omega⟩
    rw [f_X8_nth_3, hsz, if_pos (nI_le (by omega) (by omega))]
    cases res with
    | none => rfl
    | some j0 =>
      have := (hyes j0 rfl).1
      have := hle j0 rfl
      omega
  | succ m ih =>
    intro t fuel ht hf hle
    obtain ⟨f, rfl⟩ : ∃ f, fuel = f + 1 := ⟨fuel - 1, by omega⟩
    have hlt : t < n := by omega
    have next : res ≠ some t → f_X8_nth_100 (f_X8_nth_3 f) (nI k) (nI l) (nI i) (nI t) σ = some (bo res, σ) := by
      intro hne
      show f_X8_nth_3 f (nI k) (nI l) (nI i) (nI t + 1) σ = _
      rw [nI_1]
      exact ih (t + 1) f (by omega) (by omega) (fun j0 hj0 => by
        have := hle j0 hj0
        by_cases e : j0 = t
        · rw [e] at hj0
          exact absurd hj0 hne
        · omega)
    rw [f_X8_nth_3, hsz, if_neg (nI_ge hlt (by omega)), p_rank h hk hl hlt, cal_some]
    cases hc : cnt on fa fb fp k l t with
    | none =>
      simp only
      show f_X8_nth_28 (f_X8_nth_3 f) (4999 + 1) (nI k) (nI l) (nI i) (nI t) (-4) 0 0 σ = _
      have hne : res ≠ some t := by
        intro e
        obtain ⟨-, q, hq, -⟩ := hyes t e
        rw [hc] at hq
        cases hq
      rw [f_X8_nth_28, hsz, if_neg (by
        show ¬ nI n ≤ nI 0
        exact nI_ge (by omega) (by omega)), if_pos rfl]
      unfold f_X8_nth_84
      rw [if_pos rfl]
      exact next hne
    | some q =>
      have hw := rk8_lt hc
      simp only
      have e := p_nth_in (K := f_X8_nth_3 f) (v3 := nI i) h hk hl hlt hc n 0 FU (by omega) (by show n < 5000; omega)
      refine Eq.trans (show _ = f_X8_nth_28 (f_X8_nth_3 f) FU (nI k) (nI l) (nI i) (nI t) (nI (rk8 q t)) (nI (cn (gr8 on fa fb fp k l) (rk8 q t) 0)) (nI 0) σ from rfl) ?_
      rw [e]
      unfold f_X8_nth_84
      rw [if_neg (nI_m4 (by omega))]
      have hcl := cn_le (g := gr8 on fa fb fp k l) (x := rk8 q t) (n := n)
      by_cases h1 : cn (gr8 on fa fb fp k l) (rk8 q t) n = i
      · rw [h1, if_pos rfl, hno t q hlt hc h1]
        rfl
      · rw [if_neg (fun z => h1 ((nI_eq (by omega) (by omega)).mp z))]
        refine next (fun e => ?_)
        obtain ⟨-, q', hq', h2⟩ := hyes t e
        rw [hc] at hq'
        cases hq'
        exact h1 h2
