/-! ===== PURE: findSide ===== -/
def onl (e : Nat → Int) (k : Nat) (q : ZZ) : Prop := mz k q.1 q.2 = 2 * e k
def aq (k : Nat) (q : ZZ) : Int := az k q.1 q.2
/-- first and last of the points on line k among the first t -/
def BE (e : Nat → Int) (ps : List ZZ) (k t : Nat) (b d : Int32) : Prop := (b = -4 ∧ d = -4 ∧ ∀ i, i < t → ¬ onl e k (gp ps i)) ∨ ∃ i j, i < t ∧ j < t ∧ b = nI i ∧ d = nI j ∧ onl e k (gp ps i) ∧ onl e k (gp ps j) ∧ (∀ l, l < t → onl e k (gp ps l) → aq k (gp ps i) ≤ aq k (gp ps l) ∧ aq k (gp ps l) ≤ aq k (gp ps j)) ∧ (aq k (gp ps i) = aq k (gp ps j) → i = j)
theorem side_loop {σ : SS} {e : Nat → Int} {ps : List ZZ} (hM : MTb σ) (he : EB σ e) (hP : PTS σ ps) (hB : PB ps) (hn : ps.length ≤ 28) {k : Nat} (hk : k < 8) : ∀ (s t fuel : Nat) (b d : Int32), t + s = ps.length → s < fuel → BE e ps k t b d → ∃ b' d', BE e ps k ps.length b' d' ∧ f_X8_findSide_9 fuel (nI k) b d (nI t) σ = f_X8_findSide_185 (nI k) b' d' σ := by
  obtain ⟨g1, g2⟩ := n8 hk
  obtain ⟨e1, e2, e3⟩ := he k hk
  intro s
  induction s with
  | zero =>
    intro t fuel b d ht hf hI
    obtain ⟨f, rfl⟩ : ∃ f, fuel = f + 1 := ⟨fuel - 1, by omega⟩
    have : t = ps.length := by omega
    subst this
    rw [f_X8_findSide_9, hP.1, if_pos (nI_le (Nat.le_refl _) (by omega))]
    exact ⟨b, d, hI, rfl⟩
  | succ s ih =>
    intro t fuel b d ht hf hI
    obtain ⟨f, rfl⟩ : ∃ f, fuel = f + 1 := ⟨fuel - 1, by omega⟩
    have htl : t < ps.length := by omega
    obtain ⟨g3, g4⟩ := n32 (show t < 32 by omega)
    obtain ⟨p1, p2⟩ := hP.2 t htl
    have qb := hB _ (gp_mem htl)
    have mb := mz_b qb k hk
    have ab := az_b qb k hk
    have ec : iz (mz k (gp ps t).1 (gp ps t).2) = iz (2 * e k) ↔ mz k (gp ps t).1 (gp ps t).2 = 2 * e k := iz_eq ⟨by omega, by omega⟩ ⟨by omega, by omega⟩
    rw [f_X8_findSide_9, hP.1, if_neg (nI_ge htl (by omega)), chk_p g1, chk_p g3, chk_p g1, chk_p g3, chk_p g1, g2, g4, p1, p2, mc_m hM hk, e1, iz2, iz_mul]
    have fin : ∀ b1 d1, BE e ps k (t + 1) b1 d1 → ∃ b' d', BE e ps k ps.length b' d' ∧ f_X8_findSide_179 (f_X8_findSide_9 f) (nI k) b1 d1 (nI t) σ = f_X8_findSide_185 (nI k) b' d' σ := by
      intro b1 d1 h1
      obtain ⟨b', d', q1, q2⟩ := ih (t + 1) f b1 d1 (by omega) (by omega) h1
      refine ⟨b', d', q1, ?_⟩
      show f_X8_findSide_9 f (nI k) b1 d1 (nI t + 1) σ = _
      rw [nI_1]
      exact q2
    by_cases q : mz k (gp ps t).1 (gp ps t).2 = 2 * e k
    · rw [if_pos (ec.mpr q), chk_p g1, chk_p g3, chk_p g1, chk_p g3, mc_a hM hk]
      simp only [lt_]
      have qo : onl e k (gp ps t) := q
      rcases hI with ⟨rfl, rfl, hno⟩ | ⟨i, j, hi, hj, rfl, rfl, oi, oj, hall, hij⟩
      · rw [if_pos rfl]
        unfold f_X8_findSide_127 f_X8_findSide_133
        rw [if_pos rfl]
        refine fin (nI t) (nI t) (Or.inr ⟨t, t, by omega, by omega, rfl, rfl, qo, qo, fun l hl ol => ?_, fun _ => rfl⟩)
        by_cases ql : l = t
        · rw [ql]; exact ⟨Int.le_refl _, Int.le_refl _⟩
        · exact absurd ol (hno l (by omega))
      · obtain ⟨g5, g6⟩ := n32 (show i < 32 by omega)
        obtain ⟨g7, g8⟩ := n32 (show j < 32 by omega)
        obtain ⟨pi1, pi2⟩ := hP.2 i (by omega)
        obtain ⟨pj1, pj2⟩ := hP.2 j (by omega)
        have bi := az_b (hB _ (gp_mem (show i < ps.length by omega))) k hk
        have bj := az_b (hB _ (gp_mem (show j < ps.length by omega))) k hk
        have ci : iz (az k (gp ps i).1 (gp ps i).2) ≤ iz (az k (gp ps t).1 (gp ps t).2) ↔ aq k (gp ps i) ≤ aq k (gp ps t) := iz_le ⟨by omega, by omega⟩ ⟨by omega, by omega⟩
        have cj : iz (az k (gp ps t).1 (gp ps t).2) ≤ iz (az k (gp ps j).1 (gp ps j).2) ↔ aq k (gp ps t) ≤ aq k (gp ps j) := iz_le ⟨by omega, by omega⟩ ⟨by omega, by omega⟩
        have ij := (hall i (by omega) oi).2
        rw [if_neg (nI_m4 (by omega)), chk_p g1, chk_p g5, chk_p g1, chk_p g5, g6, pi1, pi2, mc_a hM hk]
        have right : ∀ u, f_X8_findSide_133 (f_X8_findSide_9 f) (nI k) (nI j) (nI t) (iz (az k (gp ps t).1 (gp ps t).2)) u σ = f_X8_findSide_179 (f_X8_findSide_9 f) (nI k) u (if aq k (gp ps t) ≤ aq k (gp ps j) then nI j else nI t) (nI t) σ := by
          intro u
          unfold f_X8_findSide_133
          rw [if_neg (nI_m4 (by omega)), chk_p g1, chk_p g7, chk_p g1, chk_p g7, g2, g8, pj1, pj2, mc_a hM hk]
          by_cases qq : aq k (gp ps t) ≤ aq k (gp ps j)
          · rw [if_pos (cj.mpr qq), if_pos qq]
            rfl
          · rw [if_neg (fun z => qq (cj.mp z)), if_neg qq]
            rfl
        by_cases qi : aq k (gp ps i) ≤ aq k (gp ps t)
        · rw [if_pos (ci.mpr qi), right]
          by_cases qj : aq k (gp ps t) ≤ aq k (gp ps j)
          · rw [if_pos qj]
            refine fin _ _ (Or.inr ⟨i, j, by omega, by omega, rfl, rfl, oi, oj, fun l hl ol => ?_, hij⟩)
            by_cases ql : l = t
            · rw [ql]; exact ⟨qi, qj⟩
            · exact hall l (by omega) ol
          · rw [if_neg qj]
            refine fin _ _ (Or.inr ⟨i, t, by omega, by omega, rfl, rfl, oi, qo, fun l hl ol => ?_, fun z => by omega⟩)
            by_cases ql : l = t
            · rw [ql]; exact ⟨qi, Int.le_refl _⟩
            · have := hall l (by omega) ol
              exact ⟨this.1, by omega⟩
        · rw [if_neg (fun z => qi (ci.mp z))]
          unfold f_X8_findSide_127
          rw [right, if_pos (by omega)]
          refine fin _ _ (Or.inr ⟨t, j, by omega, by omega, rfl, rfl, qo, oj, fun l hl ol => ?_, fun z => by omega⟩)
          by_cases ql : l = t
          · rw [ql]; exact ⟨Int.le_refl _, by omega⟩
          · have := hall l (by omega) ol
            exact ⟨by omega, this.2⟩
    · rw [if_neg (fun z => q (ec.mp z))]
      refine fin b d ?_
      rcases hI with ⟨h1, h2, hno⟩ | ⟨i, j, hi, hj, h1, h2, oi, oj, hall, hij⟩
      · refine Or.inl ⟨h1, h2, fun l hl => ?_⟩
        by_cases ql : l = t
        · rw [ql]; exact q
        · exact hno l (by omega)
      · refine Or.inr ⟨i, j, by omega, by omega, h1, h2, oi, oj, fun l hl ol => ?_, hij⟩
        by_cases ql : l = t
        · rw [ql] at ol; exact absurd ol q
        · exact hall l (by omega) ol
/-- a side more -/
def pushS (σ : SS) (n k : Nat) (P Q : ZZ) : SS := up (up (up (up (up (up σ 58 0 n (nI k)) 59 0 n (iz P.1)) 60 0 n (iz P.2)) 61 0 n (iz Q.1)) 62 0 n (iz Q.2)) 25 0 17 (nI (n + 1))
theorem side_push {σ : SS} {ps : List ZZ} (hP : PTS σ ps) (hn : ps.length ≤ 28) {n : Nat} (hs : σ.1 25 0 17 = nI n) (h8 : n < 8) {k i j : Nat} (hi : i < ps.length) (hj : j < ps.length) (hij : i ≠ j) : f_X8_findSide_185 (nI k) (nI i) (nI j) σ = some ((), pushS σ n k (gp ps i) (gp ps j)) := by
  obtain ⟨g1, g2⟩ := n8 h8
  obtain ⟨g5, g6⟩ := n32 (show i < 32 by omega)
  obtain ⟨g7, g8⟩ := n32 (show j < 32 by omega)
  obtain ⟨pi1, pi2⟩ := hP.2 i hi
  obtain ⟨pj1, pj2⟩ := hP.2 j hj
  have ne : ¬ nI i = nI j := fun z => hij ((nI_eq (by omega) (by omega)).mp z)
  unfold f_X8_findSide_185
  rw [if_neg ne]
  simp (config := { decide := true }) only [lt_, up_rd, false_and, if_false, hs, g2, g6, g8, chk_p g1, chk_p g5, chk_p g7, nI_1, pi1, pi2, pj1, pj2]
  rfl
theorem p_findSide {σ : SS} {e : Nat → Int} {ps : List ZZ} (hM : MTb σ) (he : EB σ e) (hP : PTS σ ps) (hB : PB ps) (hn : ps.length ≤ 28) {k : Nat} (hk : k < 8) {n : Nat} (hs : σ.1 25 0 17 = nI n) : ((∀ q q', q ∈ ps → q' ∈ ps → onl e k q → onl e k q' → aq k q = aq k q') → f_X8_findSide (nI k) σ = some ((), σ)) ∧ ∀ q q', q ∈ ps → q' ∈ ps → onl e k q → onl e k q' → aq k q < aq k q' → (∀ w, w ∈ ps → onl e k w → aq k q ≤ aq k w ∧ aq k w ≤ aq k q') → n < 8 → f_X8_findSide (nI k) σ = some ((), pushS σ n k q q') := by
  obtain ⟨b, d, h1, h2⟩ := side_loop hM he hP hB hn hk ps.length 0 FU (-4) (-4) (by omega) (by show ps.length < 5000; omega) (Or.inl ⟨rfl, rfl, fun i hi => absurd hi (Nat.not_lt_zero _)⟩)
  have h3 : f_X8_findSide (nI k) σ = f_X8_findSide_185 (nI k) b d σ := h2
  rw [h3]
  constructor
  · intro hA
    have : b = d := by
      rcases h1 with ⟨e1, e2, -⟩ | ⟨i, j, hi, hj, e1, e2, oi, oj, -, hij⟩
      · rw [e1, e2]
      · rw [e1, e2, hij (hA _ _ (gp_mem hi) (gp_mem hj) oi oj)]
    unfold f_X8_findSide_185
    rw [if_pos this]
  · intro q q' m1 m2 o1 o2 hlt hall h8
    obtain ⟨i0, hi0, e0⟩ := gp_of m1
    obtain ⟨j0, hj0, f0⟩ := gp_of m2
    rcases h1 with ⟨e1, e2, hno⟩ | ⟨i, j, hi, hj, e1, e2, oi, oj, hb, hij⟩
    · exact absurd (by rw [e0]; exact o1) (hno i0 hi0)
    · have a1 := hall _ (gp_mem hi) oi
      have a2 := hall _ (gp_mem hj) oj
      have b1 := hb i0 hi0 (by rw [e0]; exact o1)
      have b2 := hb j0 hj0 (by rw [f0]; exact o2)
      rw [e0] at b1
      rw [f0] at b2
      have z1 : aq k (gp ps i) = aq k q := by omega
      have z2 : aq k (gp ps j) = aq k q' := by omega
      have w1 : gp ps i = q := by
        have := mz_az k hk (oi.trans o1.symm) z1
        exact Prod.ext this.1 this.2
      have w2 : gp ps j = q' := by
        have := mz_az k hk (oj.trans o2.symm) z2
        exact Prod.ext this.1 this.2
      have ne : i ≠ j := by
        intro z
        subst z
        omega
      rw [e1, e2, side_push hP hn hs h8 hi hj ne, w1, w2]
