/-! ===== PURE: most, up, keeps, takes ===== -/
theorem most_loop {σ : SS} {ps : List ZZ} (hM : MTb σ) (hP : PTS σ ps) (hB : PB ps) (hn : ps.length ≤ 28) {k : Nat} (hk : k < 8) : ∀ (s t fuel : Nat) (m : Int32), t + s = ps.length → s < fuel → (t = 0 ∨ ∃ M, m = iz M ∧ (∃ i, i < t ∧ M = mz k (gp ps i).1 (gp ps i).2) ∧ ∀ i, i < t → mz k (gp ps i).1 (gp ps i).2 ≤ M) → 0 < ps.length → ∃ M, f_X8_most_4 fuel (nI k) m (nI t) σ = some (iz M, σ) ∧ (∃ i, i < ps.length ∧ M = mz k (gp ps i).1 (gp ps i).2) ∧ ∀ i, i < ps.length → mz k (gp ps i).1 (gp ps i).2 ≤ M := by
  obtain ⟨g1, g2⟩ := n8 hk
  intro s
  induction s with
  | zero =>
    intro t fuel m ht hf hI h0
    obtain ⟨f, rfl⟩ : ∃ f, fuel = f + 1 := ⟨fuel - 1, by omega⟩
    have : t = ps.length := by omega
    subst this
    rw [f_X8_most_4, hP.1, if_pos (nI_le (Nat.le_refl _) (by omega))]
    rcases hI with hI | ⟨M, h1, h2, h3⟩
    · omega
    · exact ⟨M, by rw [h1], h2, h3⟩
  | succ s ih =>
    intro t fuel m ht hf hI h0
    obtain ⟨f, rfl⟩ : ∃ f, fuel = f + 1 := ⟨fuel - 1, by omega⟩
    have htl : t < ps.length := by omega
    obtain ⟨g3, g4⟩ := n32 (show t < 32 by omega)
    obtain ⟨p1, p2⟩ := hP.2 t htl
    have mb := mz_b (hB _ (gp_mem htl)) k hk
    rw [f_X8_most_4, hP.1, if_neg (nI_ge htl (by omega)), chk_p g1, chk_p g3, chk_p g1, chk_p g3, g2, g4, p1, p2, mc_m hM hk, lt_eq]
    have take : (∀ i, i < t → mz k (gp ps i).1 (gp ps i).2 ≤ mz k (gp ps t).1 (gp ps t).2) → ∃ M, f_X8_most_51 (f_X8_most_4 f) (nI k) (nI t) (iz (mz k (gp ps t).1 (gp ps t).2)) σ = some (iz M, σ) ∧ (∃ i, i < ps.length ∧ M = mz k (gp ps i).1 (gp ps i).2) ∧ ∀ i, i < ps.length → mz k (gp ps i).1 (gp ps i).2 ≤ M := by
      intro hle
      obtain ⟨M, q1, q2⟩ := ih (t + 1) f (iz (mz k (gp ps t).1 (gp ps t).2)) (by omega) (by omega) (Or.inr ⟨_, rfl, ⟨t, by omega, rfl⟩, fun i hi => by
        by_cases qq : i = t
        · rw [qq]; exact Int.le_refl _
        · exact hle i (by omega)⟩) h0
      exact ⟨M, by rw [f_X8_most_51, f_X8_most_57, lt_eq, nI_1]; exact q1, q2⟩
    by_cases qt : t = 0
    · subst qt
      rw [if_pos nI_0]
      exact take (fun i hi => absurd hi (Nat.not_lt_zero _))
    · rw [if_neg (nI_ne0 (by omega) (by omega))]
      rcases hI with hI | ⟨M, h1, ⟨i0, h2, h4⟩, h3⟩
      · exact absurd hI qt
      · have mb0 := mz_b (hB _ (gp_mem (show i0 < ps.length by omega))) k hk
        rw [← h4] at mb0
        have hc : iz (mz k (gp ps t).1 (gp ps t).2) ≤ iz M ↔ mz k (gp ps t).1 (gp ps t).2 ≤ M := iz_le ⟨by omega, by omega⟩ ⟨by omega, by omega⟩
        rw [h1]
        by_cases q : mz k (gp ps t).1 (gp ps t).2 ≤ M
        · rw [if_pos (hc.mpr q)]
          obtain ⟨M', q1, q2⟩ := ih (t + 1) f (iz M) (by omega) (by omega) (Or.inr ⟨M, rfl, ⟨i0, by omega, h4⟩, fun i hi => by
            by_cases qq : i = t
            · rw [qq]; exact q
            · exact h3 i (by omega)⟩) h0
          exact ⟨M', by rw [f_X8_most_57, lt_eq, nI_1]; exact q1, q2⟩
        · rw [if_neg (fun z => q (hc.mp z))]
          exact take (fun i hi => by have := h3 i hi; omega)
theorem p_most {σ : SS} {e T : Nat → Int} {ps : List ZZ} (hF : Fit e T) (hM : MTb σ) (hP : PTS σ ps) (hA : PA e ps) {k : Nat} (hk : k < 8) : f_X8_most (nI k) σ = some (iz (T k), σ) := by
  have inT : ∀ q, q ∈ ps → ∀ k, k < 8 → mz k q.1 q.2 ≤ T k := fun q hq => (let_T hF).mp (hA.2.2.1 q hq)
  have cor : (vx T k, vy T k) ∈ ps := hA.2.2.2 _ _ ((let_T hF).mpr (fit_v hF k hk)) (fit_cand hF k hk)
  obtain ⟨i, hi, ei⟩ := gp_of cor
  obtain ⟨M, q1, ⟨j, hj, q2⟩, q3⟩ := most_loop hM hP hA.1 hA.2.1 hk ps.length 0 FU 0 (by omega) (by have := hA.2.1; show ps.length < 5000; omega) (Or.inl rfl) (by omega)
  have h1 := q3 i hi
  rw [ei] at h1
  have h2 : mz k (vx T k) (vy T k) = T k := (v_on T k hk).1
  have h3 := inT _ (gp_mem hj) k hk
  have : M = T k := by
    simp only at h1
    omega
  rw [this] at q1
  rw [f_X8_most, ← nI_0]
  rw [nI_0] at q1 ⊢
  exact q1
theorem tdiv2 (z : Int) : z.tdiv 2 = if 0 ≤ z then z / 2 else -((-z) / 2) := by
  by_cases h : 0 ≤ z
  · rw [if_pos h, Int.tdiv_eq_ediv_of_nonneg h]
  · rw [if_neg h]
    have : z = -(-z) := by omega
    rw [this, Int.neg_tdiv, Int.tdiv_eq_ediv_of_nonneg (by omega)]
    simp
theorem p_up {z : Int} (hb : bd z) (σ : SS) : f_X8_up (iz z) σ = some (iz ((z + 1) / 2), σ) := by
  have b2 : bd 2 := ⟨by decide, by decide⟩
  have e1 : iz z / iz 2 = iz (z.tdiv 2) := iz_div hb b2
  have t2 := tdiv2 z
  unfold bd at hb
  have hc : iz (z - z.tdiv 2 * 2) = 0 ↔ z - z.tdiv 2 * 2 = 0 := iz_eq (b := 0) ⟨by split at t2 <;> omega, by split at t2 <;> omega⟩ ⟨by decide, by decide⟩
  have hl : iz z ≤ 0 ↔ z ≤ 0 := iz_le (b := 0) hb ⟨by decide, by decide⟩
  unfold f_X8_up
  rw [iz2, e1, iz_mul, iz_sub]
  by_cases q : z - z.tdiv 2 * 2 = 0
  · rw [if_pos (hc.mpr q)]
    congr 3
    split at t2 <;> omega
  · rw [if_neg (fun w => q (hc.mp w))]
    by_cases q2 : z ≤ 0
    · rw [if_pos (hl.mpr q2)]
      congr 3
      split at t2 <;> omega
    · rw [if_neg (fun w => q2 (hl.mp w)), show (1 : Int32) = iz 1 from rfl, iz_add]
      congr 3
      split at t2 <;> omega
/-- a piece's bounds -/
def BD (σ : SS) (p : Nat) (E : Nat → Int) : Prop := ∀ k, k < 8 → σ.1 48 0 (8 * p + k) = iz (E k)
def PBd (p : Nat) (r _i k : Nat) : Prop := r = 48 ∧ 8 * p ≤ k ∧ k < 8 * p + 8
theorem n480 {p k : Nat} (hp : p < 60) (hk : k < 8) : (8 : Int32) * nI p + nI k = nI (8 * p + k) ∧ inr (nI (8 * p + k)) 480 ∧ ix (nI (8 * p + k)) = 8 * p + k := by
  refine ⟨?_, nI_in (by omega) (by decide), nI_clamp (by omega)⟩
  show nI 8 * nI p + nI k = _
  rw [pk_mul, nI_add]
theorem keeps_loop {e T : Nat → Int} {ps : List ZZ} (hF : Fit e T) (hm : Sm T) (hA : PA e ps) {p : Nat} (hp : p < 60) : ∀ (s t fuel : Nat) (σ : SS), t + s = 8 → s < fuel → MTb σ → PTS σ ps → (∀ k, k < t → σ.1 48 0 (8 * p + k) = iz (Ez T k)) → ∃ σ', f_X8_keeps_6 fuel (nI p) (nI t) σ = some ((), σ') ∧ BD σ' p (Ez T) ∧ fri (PBd p) σ σ' := by
  intro s
  induction s with
  | zero =>
    intro t fuel σ ht hf hM hP hb
    obtain ⟨f, rfl⟩ : ∃ f, fuel = f + 1 := ⟨fuel - 1, by omega⟩
    have : t = 8 := by omega
    subst this
    rw [f_X8_keeps_6, if_pos (by decide)]
    exact ⟨σ, rfl, hb, fri.rf _ _⟩
  | succ s ih =>
    intro t fuel σ ht hf hM hP hb
    obtain ⟨f, rfl⟩ : ∃ f, fuel = f + 1 := ⟨fuel - 1, by omega⟩
    have h8 : t < 8 := by omega
    obtain ⟨n1, n2, n3⟩ := n480 hp h8
    have sb := hm t h8
    have f1 : fri (PBd p) σ (up σ 48 0 (8 * p + t) (iz ((T t + 1) / 2))) := fri.up (fri.rf _ _) (by unfold PBd; omega)
    rw [f_X8_keeps_6, if_neg (le8 h8), p_most hF hM hP hA h8, cal_some, p_up ⟨by omega, by omega⟩, cal_some, n1, chk_p n2, n3, lt_eq, lt_eq, nI_1]
    obtain ⟨σ', q1, q2, q3⟩ := ih (t + 1) f _ (by omega) (by omega) (hM.fr f1 (by intro r k _ _; unfold PBd; omega)) (hP.fr f1 (by intro r k hrk; unfold PBd; omega)) (fun k hk => by
      by_cases q : k = t
      · rw [q]
        simp only [up_rd, and_self, if_true]
        rfl
      · rw [up_rd, if_neg (by omega)]
        exact hb k (by omega))
    exact ⟨σ', q1, q2, f1.tr q3⟩
theorem p_keeps {σ : SS} {e T : Nat → Int} (hF : Fit e T) (hM : MTb σ) (he : EB σ e) {p : Nat} (hp : p < 60) : ∃ σ', f_X8_keeps (nI p) σ = some ((), σ') ∧ BD σ' p (Ez T) ∧ fri (fun r i k => PG r i k ∨ PBd p r i k) σ σ' := by
  obtain ⟨σ1, ps, q1, q2, q3, q4⟩ := p_findPoints hM he
  have hM1 : MTb σ1 := hM.fr q4 (by intro r k _ _; unfold PP; omega)
  obtain ⟨σ2, r1, r2, r3⟩ := keeps_loop hF (fit_sm hF (fun k hk => (he k hk).2)) q3 hp 8 0 FU σ1 rfl (by show 8 < 5000; omega) hM1 q2 (fun k hk => absurd hk (Nat.not_lt_zero _))
  refine ⟨σ2, ?_, r2, (q4.mono (fun _ _ _ h => Or.inl (PP_G h))).tr (r3.mono (fun _ _ _ h => Or.inr h))⟩
  rw [f_X8_keeps, q1, cal_some, ← nI_0]
  exact r1
def P53 (r _i _k : Nat) : Prop := r = 53
theorem takes_loop {p : Nat} (hp : p < 60) {E : Nat → Int} : ∀ (s t fuel : Nat) (σ : SS), t + s = 8 → s < fuel → BD σ p E → (∀ k, k < t → σ.1 53 0 k = iz (E k)) → ∃ σ', f_X8_takes_2 fuel (nI p) (nI t) σ = f_X8_takes_31 σ' ∧ (∀ k, k < 8 → σ'.1 53 0 k = iz (E k)) ∧ fri P53 σ σ' := by
  intro s
  induction s with
  | zero =>
    intro t fuel σ ht hf hB hb
    obtain ⟨f, rfl⟩ : ∃ f, fuel = f + 1 := ⟨fuel - 1, by omega⟩
    have : t = 8 := by omega
    subst this
    rw [f_X8_takes_2, if_pos (by decide)]
    exact ⟨σ, rfl, hb, fri.rf _ _⟩
  | succ s ih =>
    intro t fuel σ ht hf hB hb
    obtain ⟨f, rfl⟩ : ∃ f, fuel = f + 1 := ⟨fuel - 1, by omega⟩
    have h8 : t < 8 := by omega
    obtain ⟨n1, n2, n3⟩ := n480 hp h8
    obtain ⟨g1, g2⟩ := n8 h8
    have f1 : fri P53 σ (up σ 53 0 t (iz (E t))) := fri.up (fri.rf _ _) rfl
    rw [f_X8_takes_2, if_neg (le8 h8), n1, chk_p n2, chk_p g1, n3, g2, hB t h8, lt_eq, lt_eq, nI_1]
    obtain ⟨σ', q1, q2, q3⟩ := ih (t + 1) f _ (by omega) (by omega) (fun k hk => by rw [f1.1 48 0 _ (by unfold P53; omega)]; exact hB k hk) (fun k hk => by
      by_cases q : k = t
      · rw [q]
        simp only [up_rd, and_self, if_true]
      · rw [up_rd, if_neg (by omega)]
        exact hb k (by omega))
    exact ⟨σ', q1, q2, f1.tr q3⟩
def PT (r i k : Nat) : Prop := r = 53 ∨ PG r i k
theorem p_takes {σ : SS} {E T : Nat → Int} (hF : Fit E T) (hM : MTb σ) {p : Nat} (hp : p < 60) (hB : BD σ p E) (hE : ∀ k, k < 8 → -10000 ≤ E k ∧ E k ≤ 10000) : ∃ σ' ps, f_X8_takes (nI p) σ = some ((), σ') ∧ SF σ' T ∧ PTS σ' ps ∧ PA E ps ∧ EB σ' E ∧ fri PT σ σ' := by
  obtain ⟨σ1, q1, q2, q3⟩ := takes_loop hp 8 0 FU σ rfl (by show 8 < 5000; omega) hB (fun k hk => absurd hk (Nat.not_lt_zero _))
  have hM1 : MTb σ1 := hM.fr q3 (by intro r k _ _; unfold P53; omega)
  have he1 : EB σ1 E := fun k hk => ⟨q2 k hk, hE k hk⟩
  obtain ⟨σ2, ps, r1, r2, r3, r4, r5⟩ := p_findSides hF hM1 he1
  refine ⟨σ2, ps, ?_, r2, r3, r4, he1.fr r5 (by intro k; unfold PG; omega), (q3.mono (fun _ _ _ h => Or.inl h)).tr (r5.mono (fun _ _ _ h => Or.inr h))⟩
  rw [f_X8_takes, ← nI_0, q1, f_X8_takes_31, r1, cal_some]
