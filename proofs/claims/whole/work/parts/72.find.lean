/-! ===== PURE: findPoints ===== -/
theorem MTb.fr {P : Nat → Nat → Nat → Prop} {σ τ : SS} (h : MTb σ) (f : fri P σ τ) (hp : ∀ r k, 40 ≤ r → r < 43 → ¬ P r 0 k) : MTb τ := fun k hk => by
  rw [f.1 40 0 k (hp _ _ (by decide) (by decide)), f.1 41 0 k (hp _ _ (by decide) (by decide)), f.1 42 0 k (hp _ _ (by decide) (by decide))]
  exact h k hk
theorem EB.fr {P : Nat → Nat → Nat → Prop} {σ τ : SS} {e : Nat → Int} (h : EB σ e) (f : fri P σ τ) (hp : ∀ k, ¬ P 53 0 k) : EB τ e := fun k hk => by
  rw [f.1 53 0 k (hp _)]
  exact h k hk
theorem PTS.fr {P : Nat → Nat → Nat → Prop} {σ τ : SS} {ps : List ZZ} (h : PTS σ ps) (f : fri P σ τ) (hp : ∀ r k, (r = 55 ∨ r = 56 ∨ (r = 25 ∧ k = 14)) → ¬ P r 0 k) : PTS τ ps := by
  refine ⟨by rw [f.1 25 0 14 (hp _ _ (by omega))]; exact h.1, fun i hi => ?_⟩
  rw [f.1 55 0 i (hp _ _ (by omega)), f.1 56 0 i (hp _ _ (by omega))]
  exact h.2 i hi
def cx (e : Nat → Int) (k l : Nat) : Int := (2 * (e k * wz l - e l * wz k)).tdiv (dz k l)
def cy (e : Nat → Int) (k l : Nat) : Int := (2 * (nz k * e l - nz l * e k)).tdiv (dz k l)
theorem dz_b : ∀ k, k < 8 → ∀ l, l < 8 → -2 ≤ dz k l ∧ dz k l ≤ 2 := by
  apply all8 <;> apply all8 <;> decide
theorem mul1_b {a c B : Int} (ha : -B ≤ a ∧ a ≤ B) (hc : -1 ≤ c ∧ c ≤ 1) : -B ≤ a * c ∧ a * c ≤ B := by
  have : c = -1 ∨ c = 0 ∨ c = 1 := by omega
  rcases this with rfl | rfl | rfl <;> omega
theorem tdiv_b {a d B : Int} (ha : -B ≤ a ∧ a ≤ B) : -B ≤ a.tdiv d ∧ a.tdiv d ≤ B := by
  have h1 : (a.tdiv d).natAbs ≤ a.natAbs := by
    rw [Int.natAbs_tdiv]
    exact Nat.div_le_self _ _
  omega
theorem c_b {e : Nat → Int} (he : ∀ k, k < 8 → -10000 ≤ e k ∧ e k ≤ 10000) {k l : Nat} (hk : k < 8) (hl : l < 8) : (-40000 ≤ 2 * (e k * wz l - e l * wz k) ∧ 2 * (e k * wz l - e l * wz k) ≤ 40000) ∧ (-40000 ≤ 2 * (nz k * e l - nz l * e k) ∧ 2 * (nz k * e l - nz l * e k) ≤ 40000) := by
  have a1 := mul1_b (he k hk) (nz_b l hl).2
  have a2 := mul1_b (he l hl) (nz_b k hk).2
  have a3 := mul1_b (he l hl) (nz_b k hk).1
  have a4 := mul1_b (he k hk) (nz_b l hl).1
  rw [Int.mul_comm (nz k), Int.mul_comm (nz l)]
  omega
theorem cxy_b {e : Nat → Int} (he : ∀ k, k < 8 → -10000 ≤ e k ∧ e k ≤ 10000) {k l : Nat} (hk : k < 8) (hl : l < 8) : pb (cx e k l) (cy e k l) := by
  obtain ⟨b1, b2⟩ := c_b he hk hl
  have q1 := tdiv_b (d := dz k l) b1
  have q2 := tdiv_b (d := dz k l) b2
  unfold pb cx cy
  omega
def tri : Nat → Nat
  | 0 => 0
  | n + 1 => tri n + n
theorem tri8 : ∀ k, k ≤ 8 → tri k ≤ 28 := by decide
/-- all pairs ahead of (k, l) have been looked at -/
def PI (e : Nat → Int) (ps : List ZZ) (k l : Nat) : Prop := PB ps ∧ (∀ q, q ∈ ps → letz e q.1 q.2) ∧ ∀ k' l', l' < k' → k' < 8 → (k' < k ∨ (k' = k ∧ l' < l)) → dz k' l' ≠ 0 → letz e (cx e k' l') (cy e k' l') → (cx e k' l', cy e k' l') ∈ ps
theorem find_in {e : Nat → Int} {k : Nat} (hk : k < 8) {K : Int32 → SS → Option (Unit × SS)} : ∀ (s l fuel : Nat) (σ : SS) (ps : List ZZ), l + s = k → s < fuel → MTb σ → EB σ e → PTS σ ps → PI e ps k l → ps.length ≤ tri k + l → ∃ σ' ps', f_X8_findPoints_15 K fuel (nI k) (nI l) σ = K (nI (k + 1)) σ' ∧ PTS σ' ps' ∧ PI e ps' (k + 1) 0 ∧ ps'.length ≤ tri (k + 1) ∧ fri PP σ σ' := by
  intro s
  induction s with
  | zero =>
    intro l fuel σ ps hl hf hM he hP hI hn
    obtain ⟨f, rfl⟩ : ∃ f, fuel = f + 1 := ⟨fuel - 1, by omega⟩
    have : l = k := by omega
    subst this
    rw [f_X8_findPoints_15, if_pos (nI_le (Nat.le_refl _) (by omega))]
    refine ⟨σ, ps, ?_, hP, ⟨hI.1, hI.2.1, fun k' l' h1 h2 h3 => hI.2.2 k' l' h1 h2 (by omega)⟩, hn, fri.rf _ _⟩
    show K (nI l + 1) σ = _
    rw [nI_1]
  | succ s ih =>
    intro l fuel σ ps hl hf hM he hP hI hn
    obtain ⟨f, rfl⟩ : ∃ f, fuel = f + 1 := ⟨fuel - 1, by omega⟩
    have hl8 : l < 8 := by omega
    obtain ⟨g1, g2⟩ := n8 hk
    obtain ⟨g3, g4⟩ := n8 hl8
    have t8 : tri k + k ≤ 28 := tri8 (k + 1) (by omega)
    have d8 := dz_b k hk l hl8
    have dB : bd (dz k l) := ⟨by omega, by omega⟩
    have eb : ∀ k, k < 8 → -10000 ≤ e k ∧ e k ≤ 10000 := fun k hk => (he k hk).2
    obtain ⟨b1, b2⟩ := c_b eb hk hl8
    have B1 : bd (2 * (e k * wz l - e l * wz k)) := ⟨by omega, by omega⟩
    have B2 : bd (2 * (nz k * e l - nz l * e k)) := ⟨by omega, by omega⟩
    have ed : σ.1 40 0 k * σ.1 41 0 l - σ.1 41 0 k * σ.1 40 0 l = iz (dz k l) := by
      rw [(hM k hk).1, (hM k hk).2.1, (hM l hl8).1, (hM l hl8).2.1, iz_mul, iz_mul, iz_sub]
      rfl
    have e0 : iz (dz k l) = 0 ↔ dz k l = 0 := iz_eq (b := 0) dB ⟨by decide, by decide⟩
    have step : ∀ σ1 ps1, fri PP σ σ1 → PTS σ1 ps1 → PI e ps1 k (l + 1) → ps1.length ≤ tri k + (l + 1) → ∃ σ' ps', f_X8_findPoints_118 K (f_X8_findPoints_15 K f) (nI k) (nI l) σ1 = K (nI (k + 1)) σ' ∧ PTS σ' ps' ∧ PI e ps' (k + 1) 0 ∧ ps'.length ≤ tri (k + 1) ∧ fri PP σ σ' := by
      intro σ1 ps1 f1 hP1 hI1 hn1
      obtain ⟨σ', ps', q1, q2, q3, q4, q5⟩ := ih (l + 1) f σ1 ps1 (by omega) (by omega) (hM.fr f1 (by intro r k _ _; unfold PP; omega)) (he.fr f1 (by intro k; unfold PP; omega)) hP1 hI1 hn1
      refine ⟨σ', ps', ?_, q2, q3, q4, fri.tr f1 q5⟩
      show f_X8_findPoints_15 K f (nI k) (nI l + 1) σ1 = _
      rw [nI_1]
      exact q1
    rw [f_X8_findPoints_15, if_neg (nI_ge (by omega) (by omega)), chk_p g1, chk_p g3, chk_p g1, chk_p g3, g2, g4, ed]
    simp only [lt_]
    by_cases q : dz k l = 0
    · rw [if_pos (e0.mpr q)]
      refine step σ ps (fri.rf _ _) hP ⟨hI.1, hI.2.1, fun k' l' h1 h2 h3 h4 => ?_⟩ (by omega)
      by_cases qq : k' = k ∧ l' = l
      · rw [qq.1, qq.2] at h4
        exact absurd q h4
      · exact hI.2.2 k' l' h1 h2 (by omega) h4
    · have n0 : ¬ iz (dz k l) = 0 := fun z => q (e0.mp z)
      rw [if_neg n0, chk_p g1, chk_p g3, chk_p g3, chk_p g1, chk_p n0, chk_p g1, chk_p g3, chk_p g3, chk_p g1, chk_p n0]
      have a1 : (2 : Int32) * (σ.1 53 0 k * σ.1 41 0 l - σ.1 53 0 l * σ.1 41 0 k) / iz (dz k l) = iz (cx e k l) := by
        rw [(hM k hk).2.1, (hM l hl8).2.1, (he k hk).1, (he l hl8).1, iz_mul, iz_mul, iz_sub, iz2, iz_mul, iz_div B1 dB]
        rfl
      have a2 : (2 : Int32) * (σ.1 40 0 k * σ.1 53 0 l - σ.1 40 0 l * σ.1 53 0 k) / iz (dz k l) = iz (cy e k l) := by
        rw [(hM k hk).1, (hM l hl8).1, (he k hk).1, (he l hl8).1, iz_mul, iz_mul, iz_sub, iz2, iz_mul, iz_div B2 dB]
        rfl
      have hB := cxy_b eb hk hl8
      rw [a1, a2]
      obtain ⟨σ1, ps1, q1, q2, q3, q4, q5⟩ := p_point hM he hP hI.1 (by omega) hB
      rw [q1, cal_some]
      refine step σ1 ps1 q5 q2 ⟨?_, ?_, ?_⟩ ?_
      · intro w hw
        rcases q4 with q4 | ⟨q4, -⟩
        · rw [q4] at hw; exact hI.1 w hw
        · rw [q4, List.mem_append] at hw
          rcases hw with hw | hw
          · exact hI.1 w hw
          · rw [List.mem_singleton.mp hw]; exact hB
      · intro w hw
        rcases q4 with q4 | ⟨q4, q6⟩
        · rw [q4] at hw; exact hI.2.1 w hw
        · rw [q4, List.mem_append] at hw
          rcases hw with hw | hw
          · exact hI.2.1 w hw
          · rw [List.mem_singleton.mp hw]; exact q6
      · intro k' l' h1 h2 h3 h4 h5
        by_cases qq : k' = k ∧ l' = l
        · rw [qq.1, qq.2] at h5 ⊢
          exact q3 h5
        · have := hI.2.2 k' l' h1 h2 (by omega) h4 h5
          rcases q4 with q4 | ⟨q4, -⟩
          · rw [q4]; exact this
          · rw [q4]; exact List.mem_append.mpr (Or.inl this)
      · rcases q4 with q4 | ⟨q4, -⟩
        · rw [q4]; omega
        · rw [q4, List.length_append, List.length_singleton]; omega
theorem find_out {e : Nat → Int} : ∀ (s k fuel : Nat) (σ : SS) (ps : List ZZ), k + s = 8 → s < fuel → MTb σ → EB σ e → PTS σ ps → PI e ps k 0 → ps.length ≤ tri k → ∃ σ' ps', f_X8_findPoints_7 fuel (nI k) σ = some ((), σ') ∧ PTS σ' ps' ∧ PI e ps' 8 0 ∧ ps'.length ≤ 28 ∧ fri PP σ σ' := by
  intro s
  induction s with
  | zero =>
    intro k fuel σ ps hk hf hM he hP hI hn
    obtain ⟨f, rfl⟩ : ∃ f, fuel = f + 1 := ⟨fuel - 1, by omega⟩
    have : k = 8 := by omega
    subst this
    rw [f_X8_findPoints_7, if_pos (by decide)]
    exact ⟨σ, ps, rfl, hP, hI, Nat.le_trans hn (tri8 8 (by decide)), fri.rf _ _⟩
  | succ s ih =>
    intro k fuel σ ps hk hf hM he hP hI hn
    obtain ⟨f, rfl⟩ : ∃ f, fuel = f + 1 := ⟨fuel - 1, by omega⟩
    have h8 : k < 8 := by omega
    rw [f_X8_findPoints_7, if_neg (le8 h8)]
    obtain ⟨σ1, ps1, q1, q2, q3, q4, q5⟩ := find_in (K := f_X8_findPoints_7 f) h8 k 0 FU σ ps (by omega) (by show k < 5000; omega) hM he hP hI (by omega)
    obtain ⟨σ2, ps2, r1, r2, r3, r4, r5⟩ := ih (k + 1) f σ1 ps1 (by omega) (by omega) (hM.fr q5 (by intro r k _ _; unfold PP; omega)) (he.fr q5 (by intro k; unfold PP; omega)) q2 q3 q4
    exact ⟨σ2, ps2, q1.trans r1, r2, r3, r4, fri.tr q5 r5⟩
/-- the points: all that are let through where two lines cross -/
def PA (e : Nat → Int) (ps : List ZZ) : Prop := PB ps ∧ ps.length ≤ 28 ∧ (∀ q, q ∈ ps → letz e q.1 q.2) ∧ ∀ x y, letz e x y → Cand e x y → (x, y) ∈ ps
theorem find_un (σ : SS) : f_X8_findPoints σ = f_X8_findPoints_7 FU (nI 0) (up σ 25 0 14 0) := by
  rw [f_X8_findPoints, lt_eq, nI_0]
theorem p_findPoints {σ : SS} {e : Nat → Int} (hM : MTb σ) (he : EB σ e) : ∃ σ' ps, f_X8_findPoints σ = some ((), σ') ∧ PTS σ' ps ∧ PA e ps ∧ fri PP σ σ' := by
  rw [find_un]
  have f0 : fri PP σ (up σ 25 0 14 0) := fri.up (fri.rf _ _) (by unfold PP; omega)
  obtain ⟨σ', ps, q1, q2, q3, q4, q5⟩ := find_out (e := e) 8 0 FU (up σ 25 0 14 0) [] (by decide) (by show (8 : Nat) < 5000; omega) (hM.fr f0 (by intro r k _ _; unfold PP; omega)) (he.fr f0 (by intro k; unfold PP; omega)) ⟨by simp only [up_rd, and_self, if_true]; rfl, fun i hi => absurd hi (Nat.not_lt_zero _)⟩ ⟨fun q hq => absurd hq (List.not_mem_nil), fun q hq => absurd hq (List.not_mem_nil), fun k' l' _ _ h => by omega⟩ (Nat.le_refl _)
  refine ⟨σ', ps, q1, q2, ⟨q3.1, q4, q3.2.1, fun x y hl hc => ?_⟩, fri.tr f0 q5⟩
  obtain ⟨k, l, h1, h2, h3, h4, h5⟩ := hc
  obtain ⟨c1, c2⟩ := cand_x h2 (by omega) h3 h4 h5
  have := q3.2.2 k l h1 h2 (by omega) h3
  unfold cx cy at this
  rw [c1, c2] at this
  exact this hl
