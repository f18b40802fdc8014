/-! ===== PURE: corner, side, area, volume, inside, waste ===== -/
def PPc (r _i k : Nat) : Prop := (r = 1 ∧ (k = 1 ∨ k = 2)) ∨ (16 ≤ r ∧ r ≤ 21) ∨ (47 ≤ r ∧ r ≤ 52) ∨ (r = 25 ∧ k = 6)
theorem PR1.fr {P : Nat → Nat → Nat → Prop} {σ τ : SS} {p : Nat} {R : Nat → Int} {th og : Nat} {ex : Bool} {ba : Int} (h : PR1 σ p R th og ex ba) (f : fri P σ τ) (hp : ∀ r i k, PPc r i k → ¬ P r i k) : PR1 τ p R th og ex ba := by
  obtain ⟨h1, ⟨⟨s1, s2, s3⟩, hB⟩, ⟨h3, h4, h5⟩, ⟨h6, h7, h8⟩, ⟨h9, h10⟩, h11, h12⟩ := h
  have e : ∀ r i k, PPc r i k → τ.1 r i k = σ.1 r i k := fun r i k z => f.1 r i k (hp r i k z)
  refine ⟨h1, ⟨⟨fun k hk => ?_, ?_, fun j hj => ?_⟩, fun k hk => ?_⟩, ⟨h3, ?_, ?_⟩, ⟨h6, ?_, ?_⟩, ⟨?_, ?_⟩, ?_, fun z => ⟨?_, ?_⟩⟩
  · rw [e 18 p k (by unfold PPc; omega)]; exact s1 k hk
  · rw [e 17 p 4 (by unfold PPc; omega)]; exact s2
  · rw [e 19 p j (by unfold PPc; omega), e 20 p j (by unfold PPc; omega), e 21 p j (by unfold PPc; omega)]; exact s3 j hj
  · rw [e 48 0 _ (by unfold PPc; omega)]; exact hB k hk
  · rw [e 16 p 1 (by unfold PPc; omega)]; exact h4
  · rw [e 49 0 p (by unfold PPc; omega)]; exact h5
  · rw [e 16 p 2 (by unfold PPc; omega)]; exact h7
  · rw [e 50 0 p (by unfold PPc; omega)]; exact h8
  · rw [e 16 p 4 (by unfold PPc; omega)]; exact h9
  · rw [e 47 0 p (by unfold PPc; omega)]; exact h10
  · rw [e 51 0 p (by unfold PPc; omega)]; exact h11
  · rw [e 16 p 3 (by unfold PPc; omega)]; exact (h12 z).1
  · rw [e 52 0 p (by unfold PPc; omega)]; exact (h12 z).2
theorem PC.fr {P : Nat → Nat → Nat → Prop} {σ τ : SS} {n : Nat} {R : Nat → Nat → Int} {th og : Nat → Nat} {ex : Nat → Bool} {ba : Nat → Int} (h : PC σ n R th og ex ba) (f : fri P σ τ) (hp : ∀ r i k, PPc r i k → ¬ P r i k) : PC τ n R th og ex ba := by
  obtain ⟨a, ⟨b1, b2, b3⟩, c⟩ := h
  have e : ∀ r i k, PPc r i k → τ.1 r i k = σ.1 r i k := fun r i k z => f.1 r i k (hp r i k z)
  refine ⟨by rw [f.2]; exact a, ⟨?_, ?_, ?_⟩, fun p hp1 => (c p hp1).fr f hp⟩
  · rw [e 1 0 1 (by unfold PPc; omega)]; exact b1
  · rw [e 25 0 6 (by unfold PPc; omega)]; exact b2
  · rw [e 1 0 2 (by unfold PPc; omega)]; exact b3
theorem PN_pc : ∀ r i k, PPc r i k → ¬ PN r i k := by
  intro r i k h
  unfold PPc at h
  unfold PN PT PG PO PTw
  omega
theorem PN_m : ∀ r k, 40 ≤ r → r < 43 → ¬ PN r 0 k := by
  intro r k h1 h2
  unfold PN PT PG PO PTw
  omega
theorem q_corner {σ : SS} (hM : MTb σ) {n : Nat} {R : Nat → Nat → Int} {th og : Nat → Nat} {ex : Nat → Bool} {ba : Nat → Int} (h : PC σ n R th og ex ba) (v1 v2 v3 : Int32) : RO PN σ (f_X7_corner v1 v2 v3) (f_X8_corner v1 v2 v3) := by
  have hn := h.1.1
  rcases h.find v1 with ⟨p, p1, rfl, p3, p4, p5⟩ | ⟨p4, p5⟩
  · obtain ⟨⟨g, s⟩, ⟨hS, hB⟩, -⟩ := h.2.2 p p1
    obtain ⟨σ2, ps, t3, t4, -, -, -, t5⟩ := p_takes g hM (show p < 60 by omega) hB (ez_b' g s)
    have h8 := pl_len (R p)
    have fr2 : fri PN σ σ2 := t5.mono (fun _ _ _ => PN_of_PT)
    unfold RO f_X7_corner f_X8_corner
    rw [p4, cal_some, p5, cal_some, if_neg (show ¬ (1 : Int32) = 0 by decide), c64_0, c64_1, p_in, cal_some]
    simp only [Option.elim]
    rw [p_isFrom, cal_some, hS.2.1]
    by_cases q1 : (0 : Int32) ≤ v2 ∧ v2 ≤ nI (pl (R p)).length - 1
    · obtain ⟨j, j1, rfl⟩ := (rng (by omega)).mp q1
      obtain ⟨g1, g2⟩ := n8 (show j < 8 by omega)
      obtain ⟨a1, a2, -⟩ := hS.2.2 j j1
      obtain ⟨-, b1, b2, -⟩ := t4.2 j j1
      rw [if_pos q1, if_neg (show ¬ (1 : Int32) = 0 by decide), p_isFrom, cal_some]
      by_cases q2 : (0 : Int32) ≤ v3 ∧ v3 ≤ 1
      · rw [if_pos q2, if_neg (show ¬ (1 : Int32) = 0 by decide), t3, cal_some, p_in, cal_some, t4.1, if_pos q1, if_neg (show ¬ (1 : Int32) = 0 by decide), if_neg (show ¬ (1 : Int32) = 0 by decide)]
        by_cases q3 : v3 = 0
        · rw [if_pos q3, if_pos q3, chk_p g1, chk_p g1, g2, a1, b1]
          exact ⟨_, σ2, rfl, rfl, fr2⟩
        · rw [if_neg q3, if_neg q3, chk_p g1, chk_p g1, g2, a2, b2]
          exact ⟨_, σ2, rfl, rfl, fr2⟩
      · rw [if_neg q2, if_pos rfl, if_pos rfl]
        exact ⟨_, σ, rfl, rfl, fri.rf _ _⟩
    · rw [if_neg q1, if_pos rfl]
      by_cases q2 : (0 : Int32) ≤ v3 ∧ v3 ≤ 1
      · rw [if_pos q2, if_neg (show ¬ (1 : Int32) = 0 by decide), t3, cal_some, p_in, cal_some, t4.1, if_neg q1, if_pos rfl]
        exact ⟨_, σ2, rfl, rfl, fr2⟩
      · rw [if_neg q2, if_pos rfl]
        exact ⟨_, σ, rfl, rfl, fri.rf _ _⟩
  · refine RO.bad (r := 100000) ?_ ?_
    · unfold f_X7_corner
      rw [p4, cal_some]
      rfl
    · unfold f_X8_corner
      rw [p5, cal_some, if_pos rfl]
theorem q_side {σ : SS} (hM : MTb σ) {n : Nat} {R : Nat → Nat → Int} {th og : Nat → Nat} {ex : Nat → Bool} {ba : Nat → Int} (h : PC σ n R th og ex ba) (v1 v2 : Int32) : RO PN σ (f_X7_side v1 v2) (f_X8_side v1 v2) := by
  have hn := h.1.1
  rcases h.find v1 with ⟨p, p1, rfl, p3, p4, p5⟩ | ⟨p4, p5⟩
  · obtain ⟨⟨g, s⟩, ⟨hS, hB⟩, -⟩ := h.2.2 p p1
    obtain ⟨σ2, ps, t3, t4, -, -, -, t5⟩ := p_takes g hM (show p < 60 by omega) hB (ez_b' g s)
    have h8 := pl_len (R p)
    have fr2 : fri PN σ σ2 := t5.mono (fun _ _ _ => PN_of_PT)
    unfold RO f_X7_side f_X8_side
    rw [p4, cal_some, p5, cal_some, if_neg (show ¬ (1 : Int32) = 0 by decide), t3, cal_some, c64_0, p_in, cal_some, t4.1]
    simp only [Option.elim]
    rw [p_isFrom, cal_some, hS.2.1]
    by_cases q1 : (0 : Int32) ≤ v2 ∧ v2 ≤ nI (pl (R p)).length - 1
    · obtain ⟨j, j1, rfl⟩ := (rng (by omega)).mp q1
      obtain ⟨g1, g2⟩ := n8 (show j < 8 by omega)
      obtain ⟨-, -, a1⟩ := hS.2.2 j j1
      obtain ⟨b1, -⟩ := t4.2 j j1
      rw [if_pos q1, if_neg (show ¬ (1 : Int32) = 0 by decide), if_neg (show ¬ (1 : Int32) = 0 by decide), chk_p g1, chk_p g1, g2, a1, b1]
      exact ⟨_, σ2, rfl, rfl, fr2⟩
    · rw [if_neg q1, if_pos rfl, if_pos rfl]
      exact ⟨_, σ2, rfl, rfl, fr2⟩
  · refine RO.bad (r := -1) ?_ ?_
    · unfold f_X7_side
      rw [p4, cal_some]
      rfl
    · unfold f_X8_side
      rw [p5, cal_some, if_pos rfl]
/-- the model's area of a piece that there is -/
theorem PC.area {σ : SS} (hM : MTb σ) {n : Nat} {R : Nat → Nat → Int} {th og : Nat → Nat} {ex : Nat → Bool} {ba : Nat → Int} (h : PC σ n R th og ex ba) {p : Nat} (p1 : p < n) (p5 : f_X8_isPiece (nI p) σ = some (1, σ)) : ∃ σ2, f_X8_area (nI p) σ = some (iz (area8 (R p)), σ2) ∧ fri PN σ σ2 := by
  have hn := h.1.1
  obtain ⟨⟨g, s⟩, ⟨hS, hB⟩, -⟩ := h.2.2 p p1
  obtain ⟨σ2, ps, t3, t4, -, -, -, t5⟩ := p_takes g hM (show p < 60 by omega) hB (ez_b' g s)
  refine ⟨σ2, ?_, t5.mono (fun _ _ _ => PN_of_PT)⟩
  unfold f_X8_area
  rw [p5, cal_some, if_neg (by decide), t3, cal_some, p_areaNow t4, cal_some]
theorem q_area {σ : SS} (hM : MTb σ) {n : Nat} {R : Nat → Nat → Int} {th og : Nat → Nat} {ex : Nat → Bool} {ba : Nat → Int} (h : PC σ n R th og ex ba) (v1 : Int32) : RO PN σ (f_X7_area v1) (f_X8_area v1) := by
  rcases h.find v1 with ⟨p, p1, rfl, p3, p4, p5⟩ | ⟨p4, p5⟩
  · obtain ⟨-, ⟨hS, -⟩, -⟩ := h.2.2 p p1
    obtain ⟨σ2, t1, t2⟩ := h.area hM p1 p5
    refine ⟨_, σ2, ?_, t1, t2⟩
    unfold f_X7_area
    rw [p4, cal_some]
    simp only [Option.elim]
    rw [p_eightfold hS, cal_some]
  · refine RO.bad (r := -1) ?_ ?_
    · unfold f_X7_area
      rw [p4, cal_some]
      rfl
    · unfold f_X8_area
      rw [p5, cal_some, if_pos rfl]
def RO64 (P : Nat → Nat → Nat → Prop) (σ : SS) (F7 F8 : SS → Option (Int64 × SS)) : Prop := ∃ r σ2, F7 σ = some (r, σ) ∧ F8 σ = some (r, σ2) ∧ fri P σ σ2
/-- a piece's volume, on both sides -/
def vol (R : Nat → Int) (th : Nat) : Int64 := (iz (area8 R)).toInt64 * (nI th).toInt64
theorem p_bulk {σ : SS} {p : Nat} {R : Nat → Int} {th og : Nat} {ex : Bool} {ba : Int} (h : PR1 σ p R th og ex ba) : f_X4_bulk p σ = some (vol R th, σ) := by
  obtain ⟨-, ⟨hS, -⟩, ⟨-, t1, -⟩, -⟩ := h
  unfold f_X4_bulk vol
  rw [p_eightfold hS, cal_some, t1]
theorem PC.vol {σ : SS} (hM : MTb σ) {n : Nat} {R : Nat → Nat → Int} {th og : Nat → Nat} {ex : Nat → Bool} {ba : Nat → Int} (h : PC σ n R th og ex ba) {p : Nat} (p1 : p < n) (p5 : f_X8_isPiece (nI p) σ = some (1, σ)) : ∃ σ2, f_X8_volume (nI p) σ = some (vol (R p) (th p), σ2) ∧ fri PN σ σ2 := by
  have hn := h.1.1
  obtain ⟨g1, g2⟩ := n60 (show p < 60 by omega)
  obtain ⟨σ2, t1, t2⟩ := h.area hM p1 p5
  obtain ⟨-, -, ⟨-, -, e49⟩, -⟩ := h.2.2 p p1
  refine ⟨σ2, ?_, t2⟩
  unfold f_X8_volume
  rw [p5, cal_some, if_neg (by decide), t1, cal_some, chk_p g1, g2, t2.1 49 0 p (PN_pc _ _ _ (by unfold PPc; omega)), e49]
  rfl
theorem q_volume {σ : SS} (hM : MTb σ) {n : Nat} {R : Nat → Nat → Int} {th og : Nat → Nat} {ex : Nat → Bool} {ba : Nat → Int} (h : PC σ n R th og ex ba) (v1 : Int32) : RO64 PN σ (f_X7_volume v1) (f_X8_volume v1) := by
  rcases h.find v1 with ⟨p, p1, rfl, p3, p4, p5⟩ | ⟨p4, p5⟩
  · obtain ⟨σ2, t1, t2⟩ := h.vol hM p1 p5
    refine ⟨_, σ2, ?_, t1, t2⟩
    unfold f_X7_volume
    rw [p4, cal_some]
    simp only [Option.elim]
    rw [p_bulk (h.2.2 p p1), cal_some]
  · refine ⟨-1, σ, ?_, ?_, fri.rf _ _⟩
    · unfold f_X7_volume
      rw [p4, cal_some]
      rfl
    · unfold f_X8_volume
      rw [p5, cal_some, if_pos rfl]
theorem q_inside {σ : SS} (hM : MTb σ) {n : Nat} {R : Nat → Nat → Int} {th og : Nat → Nat} {ex : Nat → Bool} {ba : Nat → Int} (h : PC σ n R th og ex ba) (v1 v2 v3 : Int32) : RO PN σ (f_X7_inside v1 v2 v3) (f_X8_inside v1 v2 v3) := by
  have hn := h.1.1
  rcases h.find v1 with ⟨p, p1, rfl, p3, p4, p5⟩ | ⟨p4, p5⟩
  · obtain ⟨⟨g, s⟩, ⟨hS, hB⟩, -⟩ := h.2.2 p p1
    unfold RO f_X7_inside f_X8_inside
    rw [p4, cal_some, p5, cal_some, if_neg (show ¬ (1 : Int32) = 0 by decide), c64_m10000, c64_10000, p_in, cal_some]
    simp only [Option.elim]
    rw [p_isFrom, cal_some]
    by_cases q1 : (-10000 : Int32) ≤ v2 ∧ v2 ≤ 10000
    · rw [if_pos q1, if_neg (show ¬ (1 : Int32) = 0 by decide), if_neg (show ¬ (1 : Int32) = 0 by decide), p_isFrom, cal_some, p_in, cal_some]
      by_cases q2 : (-10000 : Int32) ≤ v3 ∧ v3 ≤ 10000
      · rw [if_pos q2, if_neg (show ¬ (1 : Int32) = 0 by decide), if_neg (show ¬ (1 : Int32) = 0 by decide)]
        obtain ⟨x, x1, x2, rfl⟩ := in_z q1
        obtain ⟨y, y1, y2, rfl⟩ := in_z q2
        have m1 : (-10000 : Int32).toInt = -10000 := by decide
        have m2 : (10000 : Int32).toInt = 10000 := by decide
        rw [m1] at x1 y1
        rw [m2] at x2 y2
        have hb : pb x y := ⟨⟨by omega, by omega⟩, by omega, by omega⟩
        obtain ⟨w, w1, w2⟩ := p_place hS.1 (good_sm g s) hb
        obtain ⟨w', u1, u2⟩ := inside_loop hM (show p < 60 by omega) hB (ez_b' g s) hb 8 0 FU 2 rfl (by show 8 < 5000; omega) (Or.inr (Or.inr rfl))
        rw [nI_0] at u1
        rw [w1, cal_some, u1, in_same g w2 u2]
        exact ⟨_, σ, rfl, rfl, fri.rf _ _⟩
      · rw [if_neg q2, if_pos rfl, if_pos rfl]
        exact ⟨_, σ, rfl, rfl, fri.rf _ _⟩
    · rw [if_neg q1, if_pos rfl, if_pos rfl]
      exact ⟨_, σ, rfl, rfl, fri.rf _ _⟩
  · refine RO.bad (r := -1) ?_ ?_
    · unfold f_X7_inside
      rw [p4, cal_some]
      rfl
    · unfold f_X8_inside
      rw [p5, cal_some, if_pos rfl]
/-- what is left of a block, piece by piece -/
def wst (R : Nat → Nat → Int) (og : Nat → Nat) (ex : Nat → Bool) (p : Nat) : Nat → Nat → Int32 → Int32
  | 0, _, v => v
  | s + 1, t, v => wst R og ex p s (t + 1) (if ex t = true ∧ og t = p then v - iz (area8 (R t)) else v)
theorem PC.at {σ : SS} {n : Nat} {R : Nat → Nat → Int} {th og : Nat → Nat} {ex : Nat → Bool} {ba : Nat → Int} (h : PC σ n R th og ex ba) {p : Nat} (p1 : p < n) : (ex p = true ∧ f_X6_find (nI p) σ = some (some p, σ) ∧ f_X8_isPiece (nI p) σ = some (1, σ)) ∨ (ex p = false ∧ f_X6_find (nI p) σ = some (none, σ)) := by
  have hn := h.1.1
  have e1 := (h.2.2 p p1).2.2.2.2.1.1
  rcases h.find (nI p) with ⟨p', p1', e, p3, p4, p5⟩ | ⟨p4, p5⟩
  · have : p = p' := (nI_eq (by omega) (by omega)).mp e
    subst this
    exact Or.inl ⟨p3, p4, p5⟩
  · refine Or.inr ⟨?_, p4⟩
    cases he : ex p with
    | false => rfl
    | true =>
      exfalso
      rcases p_fes h.2.1.1 h.1.1 h.1.2.1 (nI p) with ⟨p', q1, q2, q3⟩ | ⟨q1, -⟩
      · have : p = p' := (nI_eq (by omega) (by omega)).mp q2
        subst this
        unfold f_X6_find at p4
        rw [q3, cal_some] at p4
        simp only [Option.elim] at p4
        rw [e1, he, if_neg (by decide)] at p4
        cases p4
      · exact q1 ⟨p, p1, rfl⟩
theorem lost_loop {σ : SS} {n : Nat} {R : Nat → Nat → Int} {th og : Nat → Nat} {ex : Nat → Bool} {ba : Nat → Int} (h : PC σ n R th og ex ba) {p : Nat} (hp : p < n) : ∀ (s t fuel : Nat) (v : Int32), t + s = n → s < fuel → f_X6_lostOf_28 fuel (nI p) v (nI t) σ = some (wst R og ex p s t v, σ) := by
  have hn := h.1.1
  intro s
  induction s with
  | zero =>
    intro t fuel v ht hf
    obtain ⟨f, rfl⟩ : ∃ f, fuel = f + 1 := ⟨fuel - 1, by omega⟩
    rw [f_X6_lostOf_28, h.2.1.1, if_pos (nI_le (by omega) (by omega))]
    rfl
  | succ s ih =>
    intro t fuel v ht hf
    obtain ⟨f, rfl⟩ : ∃ f, fuel = f + 1 := ⟨fuel - 1, by omega⟩
    have htn : t < n := by omega
    obtain ⟨-, ⟨hS, -⟩, -, ⟨ol, o1, -⟩, -⟩ := h.2.2 t htn
    have hc : nI (og t) = nI p ↔ og t = p := nI_eq (by omega) (by omega)
    have e70 : ∀ u, f_X6_lostOf_70 (f_X6_lostOf_28 f) (nI p) u (nI t) σ = some (wst R og ex p s (t + 1) u, σ) := by
      intro u
      rw [f_X6_lostOf_70, lt_eq, nI_1]
      exact ih (t + 1) f u (by omega) (by omega)
    rw [f_X6_lostOf_28, h.2.1.1, if_neg (nI_ge htn (by omega))]
    show _ = some (wst R og ex p s (t + 1) (if ex t = true ∧ og t = p then v - iz (area8 (R t)) else v), σ)
    rcases h.at htn with ⟨a1, a2, -⟩ | ⟨a1, a2⟩
    · rw [a2, cal_some]
      simp only [Option.elim]
      rw [o1]
      by_cases q : og t = p
      · rw [if_pos (hc.mpr q), if_pos ⟨a1, q⟩, p_eightfold hS, cal_some, lt_eq, e70]
      · rw [if_neg (fun z => q (hc.mp z)), if_neg (fun z => q z.2), e70]
    · rw [a2, cal_some, if_neg (fun z => by rw [a1] at z; exact absurd z.1 (by decide))]
      exact e70 v
theorem waste_loop {n : Nat} {R : Nat → Nat → Int} {th og : Nat → Nat} {ex : Nat → Bool} {ba : Nat → Int} {p : Nat} (hp : p < n) : ∀ (s t fuel : Nat) (v : Int32) (σ : SS), t + s = n → s < fuel → MTb σ → PC σ n R th og ex ba → ∃ σ', f_X8_waste_36 fuel (nI p) v (nI t) σ = some (wst R og ex p s t v, σ') ∧ fri PN σ σ' := by
  intro s
  induction s with
  | zero =>
    intro t fuel v σ ht hf hM h
    have hn := h.1.1
    obtain ⟨f, rfl⟩ : ∃ f, fuel = f + 1 := ⟨fuel - 1, by omega⟩
    rw [f_X8_waste_36, h.2.1.2.1, if_pos (nI_le (by omega) (by omega))]
    exact ⟨σ, rfl, fri.rf _ _⟩
  | succ s ih =>
    intro t fuel v σ ht hf hM h
    have hn := h.1.1
    obtain ⟨f, rfl⟩ : ∃ f, fuel = f + 1 := ⟨fuel - 1, by omega⟩
    have htn : t < n := by omega
    obtain ⟨g1, g2⟩ := n60 (show t < 60 by omega)
    obtain ⟨-, -, -, ⟨ol, -, o2⟩, ⟨-, x2⟩, -⟩ := h.2.2 t htn
    have hc : nI (og t) = nI p ↔ og t = p := nI_eq (by omega) (by omega)
    have e73 : ∀ u σ1, fri PN σ σ1 → ∃ σ', f_X8_waste_73 (f_X8_waste_36 f) (nI p) (nI t) v u σ1 = some (wst R og ex p s (t + 1) (v - u), σ') ∧ fri PN σ σ' := by
      intro u σ1 f1
      obtain ⟨σ', q1, q2⟩ := ih (t + 1) f (v - u) σ1 (by omega) (by omega) (hM.fr f1 PN_m) (h.fr f1 PN_pc)
      exact ⟨σ', by rw [f_X8_waste_73, lt_eq, lt_eq, nI_1]; exact q1, f1.tr q2⟩
    have e72 : ∃ σ', f_X8_waste_72 (f_X8_waste_36 f) (nI p) (nI t) v σ = some (wst R og ex p s (t + 1) v, σ') ∧ fri PN σ σ' := by
      obtain ⟨σ', q1, q2⟩ := e73 0 σ (fri.rf _ _)
      rw [Int32.sub_zero] at q1
      exact ⟨σ', by rw [f_X8_waste_72]; exact q1, q2⟩
    rw [f_X8_waste_36, h.2.1.2.1, if_neg (nI_ge htn (by omega)), chk_p g1, g2, x2]
    show ∃ σ', _ = some (wst R og ex p s (t + 1) (if ex t = true ∧ og t = p then v - iz (area8 (R t)) else v), σ') ∧ _
    rcases h.at htn with ⟨a1, -, a3⟩ | ⟨a1, -⟩
    · rw [a1, if_neg (show ¬ b01 true = 0 by decide), chk_p g1, o2]
      by_cases q : og t = p
      · obtain ⟨σ1, t1, t2⟩ := h.area hM htn a3
        rw [if_pos (hc.mpr q), if_pos ⟨rfl, q⟩, t1, cal_some]
        exact e73 _ σ1 t2
      · rw [if_neg (fun z => q (hc.mp z)), if_neg (fun z => q z.2)]
        exact e72
    · rw [a1, if_pos (show b01 false = 0 by decide), if_neg (fun z => absurd z.1 (by decide))]
      exact e72
theorem q_waste {σ : SS} (hM : MTb σ) {n : Nat} {R : Nat → Nat → Int} {th og : Nat → Nat} {ex : Nat → Bool} {ba : Nat → Int} (h : PC σ n R th og ex ba) (v1 : Int32) : RO PN σ (f_X7_waste v1) (f_X8_waste v1) := by
  have hn := h.1.1
  unfold RO f_X7_waste f_X8_waste f_X6_lostOf f_X6_cameAsBlock
  rw [h.2.1.2.1, c64_0, p_in, cal_some]
  rcases p_fes h.2.1.1 h.1.1 h.1.2.1 v1 with ⟨p, p1, rfl, p3⟩ | ⟨q, p3⟩
  · obtain ⟨g1, g2⟩ := n60 (show p < 60 by omega)
    obtain ⟨-, -, -, ⟨ol, o1, -⟩, -, b1, b2⟩ := h.2.2 p p1
    have hc : nI (og p) = nI p ↔ og p = p := nI_eq (by omega) (by omega)
    rw [if_pos ((rng (by omega)).mpr ⟨p, p1, rfl⟩), if_neg (show ¬ (1 : Int32) = 0 by decide), p3, cal_some, chk_p g1, g2, b1]
    simp only [Option.elim]
    rw [p3, cal_some]
    simp only [Option.elim]
    rw [o1]
    by_cases q : og p = p
    · obtain ⟨c1, c2⟩ := b2 q
      obtain ⟨σ2, w1, w2⟩ := waste_loop (R := R) (th := th) (og := og) (ex := ex) (ba := ba) p1 n 0 FU (iz (ba p)) σ (by omega) (by show n < 5000; omega) hM h
      have l1 := lost_loop h p1 n 0 FU (iz (ba p)) (by omega) (by show n < 5000; omega)
      rw [nI_0] at w1 l1
      rw [if_pos (hc.mpr q), cal_some, if_neg (show ¬ (1 : Int32) = 0 by decide), decide_eq_true q, if_neg (show ¬ b01 true = 0 by decide), chk_p g1, lt_eq, lt_eq, c1, c2, l1, cal_some, w1]
      exact ⟨_, σ2, rfl, rfl, w2⟩
    · rw [if_neg (fun z => q (hc.mp z)), cal_some, if_pos rfl, cal_some, decide_eq_false q, if_pos (show b01 false = 0 by decide)]
      exact ⟨_, σ, rfl, rfl, fri.rf _ _⟩
  · rw [if_neg (fun z => q ((rng (by omega)).mp z)), if_pos rfl, p3, cal_some]
    simp only [Option.elim]
    rw [cal_some]
    exact ⟨_, σ, rfl, rfl, fri.rf _ _⟩
