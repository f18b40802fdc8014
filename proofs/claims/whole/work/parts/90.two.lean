/-! ===== PURE: near, touch, meet ===== -/
/-- two pieces, or none: on both sides -/
theorem PC.two {σ : SS} {n : Nat} {R : Nat → Nat → Int} {th og : Nat → Nat} {ex : Nat → Bool} {ba : Nat → Int} (h : PC σ n R th og ex ba) (v1 v2 : Int32) : (∃ a b, a < n ∧ b < n ∧ v1 = nI a ∧ v2 = nI b ∧ ¬ v1 = v2 ∧ f_X6_find v1 σ = some (some a, σ) ∧ f_X6_find v2 σ = some (some b, σ) ∧ f_X8_areTwo v1 v2 σ = some (1, σ)) ∨ (∃ q q', f_X6_find v1 σ = some (q, σ) ∧ f_X6_find v2 σ = some (q', σ) ∧ (q = none ∨ q' = none ∨ v1 = v2) ∧ f_X8_areTwo v1 v2 σ = some (0, σ)) := by
  unfold f_X8_areTwo
  rcases h.find v1 with ⟨a, a1, a2, -, a4, a5⟩ | ⟨a4, a5⟩
  · rcases h.find v2 with ⟨b, b1, b2, -, b4, b5⟩ | ⟨b4, b5⟩
    · by_cases q : v1 = v2
      · refine Or.inr ⟨some a, some b, a4, b4, Or.inr (Or.inr q), ?_⟩
        rw [a5, cal_some, if_neg (by decide), b5, cal_some, if_neg (by decide), if_pos q]
      · refine Or.inl ⟨a, b, a1, b1, a2, b2, q, a4, b4, ?_⟩
        rw [a5, cal_some, if_neg (by decide), b5, cal_some, if_neg (by decide), if_neg q]
    · refine Or.inr ⟨some a, none, a4, b4, Or.inr (Or.inl rfl), ?_⟩
      rw [a5, cal_some, if_neg (by decide), b5, cal_some, if_pos rfl]
  · have hq : ∃ q', f_X6_find v2 σ = some (q', σ) := by
      rcases h.find v2 with ⟨b, -, -, -, b4, -⟩ | ⟨b4, -⟩
      · exact ⟨_, b4⟩
      · exact ⟨_, b4⟩
    obtain ⟨q', b4⟩ := hq
    refine Or.inr ⟨none, q', a4, b4, Or.inl rfl, ?_⟩
    rw [a5, cal_some, if_pos rfl]
theorem q_near {σ : SS} (hM : MTb σ) {n : Nat} {R : Nat → Nat → Int} {th og : Nat → Nat} {ex : Nat → Bool} {ba : Nat → Int} (h : PC σ n R th og ex ba) (v1 v2 : Int32) : RO PN σ (f_X7_near v1 v2) (f_X8_near v1 v2) := by
  have hn := h.1.1
  unfold RO f_X7_near f_X8_near
  rcases h.two v1 v2 with ⟨a, b, a1, b1, e1, e2, ne, f1, f2, f3⟩ | ⟨q, q', f1, f2, f4, f3⟩
  · obtain ⟨⟨gA, sA⟩, ⟨hA, bA⟩, -⟩ := h.2.2 a a1
    obtain ⟨⟨gB, sB⟩, ⟨hB, bB⟩, -⟩ := h.2.2 b b1
    have mA := good_sm gA sA
    have mB := good_sm gB sB
    obtain ⟨v, σ2, t1, t2, t3⟩ := p_nearness hM (show a < 60 by omega) (show b < 60 by omega) gA gB sA sB bA bB
    obtain ⟨o1, o2⟩ := p_overlaps hA.1 hB.1 mA mB
    rw [f1, cal_some, f2, cal_some, f3, cal_some, if_neg (show ¬ (1 : Int32) = 0 by decide)]
    simp only [Option.elim]
    rw [if_neg ne, e1, e2, t1, cal_some]
    rcases t3 with ⟨ho, rfl⟩ | ⟨ho, hc, rfl⟩ | ⟨ho, k, k1, k2, rfl, -, -⟩
    · rw [o1 ho, cal_some, if_neg (show ¬ (1 : Int32) = 0 by decide)]
      exact ⟨_, σ2, rfl, rfl, t2⟩
    · rw [o2 ho, cal_some, if_pos rfl]
      rcases p_direction hA hB mA mB with ⟨-, d2⟩ | ⟨k, k1, k2, -⟩
      · rw [d2, cal_some, if_pos rfl]
        exact ⟨_, σ2, rfl, rfl, t2⟩
      · have := hc k k1
        omega
    · rw [o2 ho, cal_some, if_pos rfl]
      rcases p_direction hA hB mA mB with ⟨d1, -⟩ | ⟨k', k1', k2', d2⟩
      · have := d1 k k1
        omega
      · rw [d2, cal_some, if_neg (nI_m4 (by omega))]
        exact ⟨_, σ2, rfl, rfl, t2⟩
  · rw [f1, cal_some, f2, cal_some, f3, cal_some, if_pos rfl]
    rcases f4 with rfl | rfl | q3
    · exact ⟨_, σ, rfl, rfl, fri.rf _ _⟩
    · cases q <;> exact ⟨_, σ, rfl, rfl, fri.rf _ _⟩
    · cases q with
      | none => exact ⟨_, σ, rfl, rfl, fri.rf _ _⟩
      | some a =>
        cases q' with
        | none => exact ⟨_, σ, rfl, rfl, fri.rf _ _⟩
        | some b =>
          simp only [Option.elim]
          rw [if_pos q3]
          exact ⟨_, σ, rfl, rfl, fri.rf _ _⟩
theorem q_touch {σ : SS} (hM : MTb σ) {n : Nat} {R : Nat → Nat → Int} {th og : Nat → Nat} {ex : Nat → Bool} {ba : Nat → Int} (h : PC σ n R th og ex ba) (v1 v2 v3 : Int32) : RO PN σ (f_X7_touch v1 v2 v3) (f_X8_touch v1 v2 v3) := by
  have hn := h.1.1
  unfold RO f_X7_touch f_X8_touch
  rcases h.two v1 v2 with ⟨a, b, a1, b1, e1, e2, ne, f1, f2, f3⟩ | ⟨q, q', f1, f2, f4, f3⟩
  · obtain ⟨⟨gA, sA⟩, ⟨hA, bA⟩, -⟩ := h.2.2 a a1
    obtain ⟨⟨gB, sB⟩, ⟨hB, bB⟩, -⟩ := h.2.2 b b1
    have mA := good_sm gA sA
    have mB := good_sm gB sB
    obtain ⟨v, σ2, t1, t2, t3⟩ := p_nearness hM (show a < 60 by omega) (show b < 60 by omega) gA gB sA sB bA bB
    rw [f1, cal_some, f2, cal_some, f3, cal_some, if_neg (show ¬ (1 : Int32) = 0 by decide), c64_0, c64_1, p_in, cal_some]
    simp only [Option.elim]
    rw [if_neg ne, p_isFrom, cal_some]
    by_cases q : (0 : Int32) ≤ v3 ∧ v3 ≤ 1
    · rw [if_pos q, if_neg (show ¬ (1 : Int32) = 0 by decide), if_neg (show ¬ (1 : Int32) = 0 by decide), e1, e2, t1, cal_some]
      have none_case : ¬ v = 1 → (∀ k, k < 8 → ¬ 0 < cmn (R a) (R b) k) → ∃ r σ2', cal (f_X3_directionTo a b σ) (fun x10 s9 => if x10 = (-4 : Int32) then some (x10, s9) else if v3 = 0 then some (x10, s9) else cal (f_X3_common a x10 b s9) (fun x12 s11 => some (x12, s11))) = some (r, σ) ∧ (if v = 1 then if v3 = 0 then some (σ2.1 25 0 27, σ2) else some (σ2.1 25 0 28, σ2) else some (-4, σ2)) = some (r, σ2') ∧ fri PN σ σ2' := by
        intro hv hc
        rcases p_direction hA hB mA mB with ⟨-, d2⟩ | ⟨k, k1, k2, -⟩
        · rw [d2, cal_some, if_pos rfl, if_neg hv]
          exact ⟨_, σ2, rfl, rfl, t2⟩
        · exact absurd k2 (hc k k1)
      rcases t3 with ⟨ho, hv⟩ | ⟨ho, hc, hv⟩ | ⟨ho, k, k1, k2, rfl, w1, w2⟩
      · exact none_case (by rw [hv]; decide) (fun k hk hp => cmn_apart hk hp ho)
      · exact none_case (by rw [hv]; decide) (fun k hk hp => by have := hc k hk; omega)
      · rcases p_direction hA hB mA mB with ⟨d1, -⟩ | ⟨k', k1', k2', d2⟩
        · have := d1 k k1
          omega
        · have hk : k = k' := cmn_one gA gB k1 k1' k2 k2'
          subst hk
          rw [d2, cal_some, if_neg (nI_m4 (by omega)), if_pos rfl, w1, w2]
          by_cases q0 : v3 = 0
          · rw [if_pos q0, if_pos q0]
            exact ⟨_, σ2, rfl, rfl, t2⟩
          · rw [if_neg q0, if_neg q0, p_common hA hB mA mB k1, cal_some]
            exact ⟨_, σ2, rfl, rfl, t2⟩
    · rw [if_neg q, if_pos rfl, if_pos rfl]
      exact ⟨_, σ, rfl, rfl, fri.rf _ _⟩
  · rw [f1, cal_some, f2, cal_some, f3, cal_some, if_pos rfl]
    rcases f4 with rfl | rfl | q3
    · exact ⟨_, σ, rfl, rfl, fri.rf _ _⟩
    · cases q <;> exact ⟨_, σ, rfl, rfl, fri.rf _ _⟩
    · cases q with
      | none => exact ⟨_, σ, rfl, rfl, fri.rf _ _⟩
      | some a =>
        cases q' with
        | none => exact ⟨_, σ, rfl, rfl, fri.rf _ _⟩
        | some b =>
          simp only [Option.elim]
          rw [if_pos q3]
          exact ⟨_, σ, rfl, rfl, fri.rf _ _⟩
theorem trt_c {σ : SS} {n : Nat} {fa fb fj fp : Nat → Nat} {on : Nat → Bool} (h : RU σ n fa fb fj fp on) {k l : Nat} (hk : k < 6) (hl : l < 6) : trt on fa fb fp n k l = -5 ∨ ∃ j, j < n ∧ trt on fa fb fp n k l = nI j := by
  obtain ⟨j, q, hj, hq, hi, -, -⟩ := ith0 h hk hl
  unfold trt
  rw [hi]
  simp only
  rw [hq]
  simp only
  by_cases z : anyF (unP on fa fb fp k l q.1 (q.1 + q.2)) n 0 = true
  · rw [if_pos z]
    exact Or.inl rfl
  · rw [if_neg z]
    exact Or.inr ⟨j, hj, rfl⟩
theorem RU.fr {P : Nat → Nat → Nat → Prop} {σ τ : SS} {n : Nat} {fa fb fj fp : Nat → Nat} {on : Nat → Bool} (h : RU σ n fa fb fj fp on) (f : fri P σ τ) (hp : ∀ r i k, PR r k → ¬ P r i k) : RU τ n fa fb fj fp on := by
  have e : ∀ r i k, PR r k → τ.1 r i k = σ.1 r i k := fun r i k z => f.1 r i k (hp r i k z)
  obtain ⟨h1, ⟨h2, h3⟩, h4, h5, h6⟩ := h
  refine ⟨h1, ⟨?_, ?_⟩, fun j hj => ?_, fun q hq => ?_, h6⟩
  · rw [e 7 0 4 (by unfold PR; omega)]; exact h2
  · rw [e 25 0 35 (by unfold PR; omega)]; exact h3
  · rw [e 8 0 j (by unfold PR; omega), e 9 0 j (by unfold PR; omega), e 10 0 j (by unfold PR; omega), e 11 0 j (by unfold PR; omega), e 76 0 j (by unfold PR; omega), e 77 0 j (by unfold PR; omega), e 78 0 j (by unfold PR; omega), e 79 0 j (by unfold PR; omega)]
    exact h4 j hj
  · rw [e 80 0 q (by unfold PR; omega), e 7 0 5 (by unfold PR; omega)]
    exact h5 q hq
theorem PN_ru : ∀ r i k, PR r k → ¬ PN r i k := by
  intro r i k h
  unfold PR at h
  unfold PN PT PG PO PTw
  omega
theorem PC.kindOf {σ : SS} (hM : MTb σ) {n : Nat} {R : Nat → Nat → Int} {th og : Nat → Nat} {ex : Nat → Bool} {ba : Nat → Int} (h : PC σ n R th og ex ba) {p : Nat} (p1 : p < n) : ∃ σ2, f_X8_kindOf (nI p) σ = some (nI (kd (R p)), σ2) ∧ SF σ2 (R p) ∧ fri PN σ σ2 := by
  have hn := h.1.1
  obtain ⟨⟨g, s⟩, ⟨hS, hB⟩, -⟩ := h.2.2 p p1
  obtain ⟨σ2, ps, t3, t4, -, -, -, t5⟩ := p_takes g hM (show p < 60 by omega) hB (ez_b' g s)
  refine ⟨σ2, ?_, t4, t5.mono (fun _ _ _ => PN_of_PT)⟩
  unfold f_X8_kindOf
  rw [t3, cal_some, p_kindNow t4 (fit_len g), cal_some]
theorem q_meet {σ : SS} (hM : MTb σ) {n : Nat} {R : Nat → Nat → Int} {th og : Nat → Nat} {ex : Nat → Bool} {ba : Nat → Int} (h : PC σ n R th og ex ba) {m : Nat} {fa fb fj fp : Nat → Nat} {on : Nat → Bool} (hU : RU σ m fa fb fj fp on) (v1 v2 : Int32) : RO PN σ (f_X7_meet v1 v2) (f_X8_meet v1 v2) := by
  have hn := h.1.1
  have hm := hU.1
  unfold RO f_X7_meet f_X8_meet
  rcases h.two v1 v2 with ⟨a, b, a1, b1, e1, e2, ne, f1, f2, f3⟩ | ⟨q, q', f1, f2, f4, f3⟩
  · obtain ⟨⟨gA, sA⟩, ⟨hA, bA⟩, -⟩ := h.2.2 a a1
    obtain ⟨⟨gB, sB⟩, ⟨hB, bB⟩, -⟩ := h.2.2 b b1
    have mA := good_sm gA sA
    have mB := good_sm gB sB
    obtain ⟨v, σ2, t1, t2, t3⟩ := p_nearness hM (show a < 60 by omega) (show b < 60 by omega) gA gB sA sB bA bB
    rw [f1, cal_some, f2, cal_some, f3, cal_some, if_neg (show ¬ (1 : Int32) = 0 by decide), e1, e2, t1, cal_some]
    simp only [Option.elim]
    rw [← e1, ← e2, if_neg ne]
    rcases t3 with ⟨ho, hv⟩ | ⟨ho, hc, hv⟩ | ⟨ho, k, k1, k2, hv, -, -⟩
    · rcases p_direction hA hB mA mB with ⟨-, d2⟩ | ⟨k, k1, k2, -⟩
      · rw [d2, cal_some, if_pos rfl, if_neg (by rw [hv]; decide)]
        exact ⟨_, σ2, rfl, rfl, t2⟩
      · exact absurd ho (cmn_apart k1 k2)
    · rcases p_direction hA hB mA mB with ⟨-, d2⟩ | ⟨k, k1, k2, -⟩
      · rw [d2, cal_some, if_pos rfl, if_neg (by rw [hv]; decide)]
        exact ⟨_, σ2, rfl, rfl, t2⟩
      · have := hc k k1
        omega
    · rcases p_direction hA hB mA mB with ⟨d1, -⟩ | ⟨k', k1', k2', d2⟩
      · have := d1 k k1
        omega
      · rw [d2, cal_some, if_neg (nI_m4 (by omega)), if_pos hv, p_kind hA, cal_some, p_kind hB, cal_some, p_decide hU (kd_lt _) (kd_lt _), cal_some]
        obtain ⟨σ3, u1, -, u2⟩ := (h.fr t2 PN_pc).kindOf (hM.fr t2 PN_m) a1
        obtain ⟨σ4, x1, -, x2⟩ := ((h.fr t2 PN_pc).fr u2 PN_pc).kindOf ((hM.fr t2 PN_m).fr u2 PN_m) b1
        have hU4 := ((hU.fr t2 PN_ru).fr u2 PN_ru).fr x2 PN_ru
        have fr4 : fri PN σ σ4 := t2.tr (u2.tr x2)
        rw [e1, e2, u1, cal_some, x1, cal_some, p_treating hU4 (kd_lt _) (kd_lt _), cal_some]
        rcases trt_c hU (kd_lt (R a)) (kd_lt (R b)) with z | ⟨j, j1, z⟩
        · rw [z, if_neg (show ¬ (0 : Int32) ≤ -5 by decide), if_pos rfl]
          exact ⟨_, σ4, rfl, rfl, fr4⟩
        · obtain ⟨i1, i2, -, -⟩ := n40 (show j < 40 by omega)
          have m5 : ¬ nI j = (-5 : Int32) := by
            intro z
            have h1 := nI_pos' (n := j) (by omega)
            rw [z] at h1
            exact absurd h1 (by decide)
          rw [z, if_pos (nI_pos' (by omega)), if_neg m5, chk_p i1, chk_p i1, i2, (hU.2.2.1 j j1).2.1.2.2.1, (hU4.2.2.1 j j1).2.2.2.2.1]
          exact ⟨_, σ4, rfl, rfl, fr4⟩
  · rw [f1, cal_some, f2, cal_some, f3, cal_some, if_pos rfl]
    rcases f4 with rfl | rfl | q3
    · exact ⟨_, σ, rfl, rfl, fri.rf _ _⟩
    · cases q <;> exact ⟨_, σ, rfl, rfl, fri.rf _ _⟩
    · cases q with
      | none => exact ⟨_, σ, rfl, rfl, fri.rf _ _⟩
      | some a =>
        cases q' with
        | none => exact ⟨_, σ, rfl, rfl, fri.rf _ _⟩
        | some b =>
          simp only [Option.elim]
          rw [if_pos q3]
          exact ⟨_, σ, rfl, rfl, fri.rf _ _⟩
