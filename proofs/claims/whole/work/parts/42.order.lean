/-! ===== PURE: the least rank above one ===== -/
def msel (lo : Nat) (o f : Option Nat) : Option Nat := match f with
  | none => o
  | some r => if r < lo then o else match o with
    | none => some r
    | some b => if b ≤ r then o else some r
def mfold (lo : Nat) (g : Nat → Option Nat) : Nat → Option Nat
  | 0 => none
  | n + 1 => msel lo (mfold lo g n) (g n)
def bo (o : Option Nat) : Int32 := match o with
  | some r => nI r
  | none => -4
theorem mfold_from {lo : Nat} {g : Nat → Option Nat} {r : Nat} : ∀ {n : Nat}, mfold lo g n = some r → ∃ j, j < n ∧ g j = some r ∧ lo ≤ r
  | n + 1, h => by
    unfold mfold msel at h
    cases hg : g n with
    | none =>
      rw [hg] at h
      obtain ⟨j, h1, h2⟩ := mfold_from (n := n) h
      exact ⟨j, by omega, h2⟩
    | some x =>
      rw [hg] at h
      simp only at h
      split at h
      · obtain ⟨j, h1, h2⟩ := mfold_from (n := n) h
        exact ⟨j, by omega, h2⟩
      · split at h
        · cases h
          exact ⟨n, by omega, hg, by omega⟩
        · rename_i b hb
          split at h
          · obtain ⟨j, h1, h2⟩ := mfold_from (n := n) h
            exact ⟨j, by omega, h2⟩
          · cases h
            exact ⟨n, by omega, hg, by omega⟩
theorem mfold_le {lo : Nat} {g : Nat → Option Nat} : ∀ {n j r : Nat}, j < n → g j = some r → lo ≤ r → ∃ b, mfold lo g n = some b ∧ b ≤ r
  | n + 1, j, r, hj, hg, hr => by
    by_cases hjn : j = n
    · subst hjn
      unfold mfold msel
      rw [hg]
      simp only
      rw [if_neg (by omega)]
      cases hm : mfold lo g j with
      | none => exact ⟨r, rfl, Nat.le_refl _⟩
      | some b =>
        simp only
        by_cases hb : b ≤ r
        · rw [if_pos hb]
          exact ⟨b, rfl, hb⟩
        · rw [if_neg hb]
          exact ⟨r, rfl, Nat.le_refl _⟩
    · obtain ⟨b, h1, h2⟩ := mfold_le (n := n) (by omega) hg hr
      unfold mfold msel
      rw [h1]
      cases hn : g n with
      | none => exact ⟨b, rfl, h2⟩
      | some x =>
        simp only
        split
        · exact ⟨b, rfl, h2⟩
        · split
          · exact ⟨b, rfl, h2⟩
          · exact ⟨x, rfl, by omega⟩
/-- the counting rules' ranks -/
def gr (on : Nat → Bool) (fa fb fp : Nat → Nat) (k l j : Nat) : Option Nat := (cnt on fa fb fp k l j).map (fun q => rk7 q j)
theorem gr_lt {on : Nat → Bool} {fa fb fp : Nat → Nat} {k l j r : Nat} (h : gr on fa fb fp k l j = some r) : r < 1000 := by
  unfold gr at h
  obtain ⟨q, h1, h2⟩ := Option.map_eq_some_iff.mp h
  obtain ⟨-, c1, c2⟩ := cnt_some h1
  have a1 := stp_le c1
  have a2 := stp_le c2
  rw [← h2]
  unfold rk7
  omega
theorem p_rankAfter_loop {σ : SS} {n : Nat} {fa fb fj fp : Nat → Nat} {on : Nat → Bool} (h : RU σ n fa fb fj fp on) {k l lo : Nat} (hk : k < 6) (hl : l < 6) (hlo : lo ≤ 1000) : ∀ (m j fuel : Nat), j + m = n → m < fuel → f_X5_rankAfter_7 fuel (nI k) (nI l) (iz ((lo : Int) - 1)) (bo (mfold lo (gr on fa fb fp k l) j)) (nI j) σ = some (bo (mfold lo (gr on fa fb fp k l) n), σ) := by
  have hn := h.1
  have hsz := h.2.1.1
  intro m
  induction m with
  | zero =>
    intro j fuel hj hf
    obtain ⟨f, rfl⟩ : ∃ f, fuel = f + 1 := ⟨fuel - 1, by omega⟩
    rw [f_X5_rankAfter_7, hsz, if_pos (nI_le (by omega) (by omega))]
    rw [show j = n by omega]
  | succ m ih =>
    intro j fuel hj hf
    obtain ⟨f, rfl⟩ : ∃ f, fuel = f + 1 := ⟨fuel - 1, by omega⟩
    have next : ∀ o, msel lo (mfold lo (gr on fa fb fp k l) j) (gr on fa fb fp k l j) = o → f_X5_rankAfter_61 (f_X5_rankAfter_7 f) (nI k) (nI l) (iz ((lo : Int) - 1)) (bo o) (nI j) σ = some (bo (mfold lo (gr on fa fb fp k l) n), σ) := by
      intro o ho
      unfold f_X5_rankAfter_61 lt_
      rw [nI_1, ← ho]
      exact ih (j + 1) f (by omega) (by omega)
    rw [f_X5_rankAfter_7, hsz, if_neg (nI_ge (by omega) (by omega)), p_counts h hk hl (show j < n by omega), cal_some]
    cases hc : cnt on fa fb fp k l j with
    | none =>
      rw [if_pos (by rfl)]
      refine next _ ?_
      unfold gr
      rw [hc]
      rfl
    | some q =>
      rw [t01, if_pos (show (some q).isSome = true from rfl), p_rankOf h hk hl (show j < n by omega) hc, cal_some]
      have hg : gr on fa fb fp k l j = some (rk7 q j) := by unfold gr; rw [hc]; rfl
      have hr := gr_lt hg
      generalize rk7 q j = r at hg hr ⊢
      have hcmp : nI r ≤ iz ((lo : Int) - 1) ↔ r < lo := by
        rw [iz_nI, iz_le ⟨by omega, by omega⟩ ⟨by omega, by omega⟩]
        omega
      by_cases h1 : r < lo
      · rw [if_pos (hcmp.mpr h1)]
        refine next _ ?_
        rw [hg]
        exact if_pos h1
      · rw [if_neg (fun q => h1 (hcmp.mp q))]
        cases hm : mfold lo (gr on fa fb fp k l) j with
        | none =>
          rw [if_pos (by rfl)]
          refine next (some r) ?_
          rw [hg, hm]
          exact if_neg h1
        | some bb =>
          obtain ⟨j', -, hj2, -⟩ := mfold_from hm
          have hbb := gr_lt hj2
          rw [if_neg (by
            show ¬ nI bb = -4
            intro e
            have e2 : iz (bb : Int) = iz (-4) := by rw [← iz_nI]; exact e
            have := (iz_eq ⟨by omega, by omega⟩ ⟨by decide, by decide⟩).mp e2
            omega)]
          by_cases h2 : bb ≤ r
          · rw [if_pos (show bo (some bb) ≤ nI r from nI_le h2 (by omega))]
            refine next (some bb) ?_
            rw [hg, hm]
            exact (if_neg h1).trans (if_pos h2)
          · rw [if_neg (show ¬ bo (some bb) ≤ nI r from nI_ge (by omega) (by omega))]
            refine next (some r) ?_
            rw [hg, hm]
            exact (if_neg h1).trans (if_neg h2)
theorem p_rankAfter {σ : SS} {n : Nat} {fa fb fj fp : Nat → Nat} {on : Nat → Bool} (h : RU σ n fa fb fj fp on) {k l lo : Nat} (hk : k < 6) (hl : l < 6) (hlo : lo ≤ 1000) : f_X5_rankAfter (nI k) (nI l) (iz ((lo : Int) - 1)) σ = some (bo (mfold lo (gr on fa fb fp k l) n), σ) := by
  have hn := h.1
  exact p_rankAfter_loop h hk hl hlo n 0 FU (by omega) (by show n < 5000; omega)
