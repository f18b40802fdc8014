/-! ===== PURE: the pieces, on both sides ===== -/
def PR1 (σ : SS) (p : Nat) (R : Nat → Int) (th og : Nat) (ex : Bool) (ba : Int) : Prop := (Good R ∧ ∀ k, k < 8 → R k ≤ 8000) ∧ (SH σ p R ∧ BD σ p (Ez R)) ∧ ((1 ≤ th ∧ th ≤ 1000) ∧ σ.1 16 p 1 = nI th ∧ σ.1 49 0 p = nI th) ∧ (og ≤ p ∧ σ.1 16 p 2 = nI og ∧ σ.1 50 0 p = nI og) ∧ (σ.1 16 p 4 = b01 ex ∧ σ.1 47 0 p = b01 ex) ∧ σ.1 51 0 p = b01 (decide (og = p)) ∧ (og = p → σ.1 16 p 3 = iz ba ∧ σ.1 52 0 p = iz ba)
/-- how many came by block() -/
def blk (og : Nat → Nat) : Nat → Nat
  | 0 => 0
  | p + 1 => blk og p + (if og p = p then 1 else 0)
def PC (σ : SS) (n : Nat) (R : Nat → Nat → Int) (th og : Nat → Nat) (ex : Nat → Bool) (ba : Nat → Int) : Prop := (n ≤ 60 ∧ n ≤ σ.2.1 ∧ σ.2.1 ≤ 60) ∧ (σ.1 1 0 1 = nI n ∧ σ.1 25 0 6 = nI n ∧ σ.1 1 0 2 = nI (blk og n)) ∧ ∀ p, p < n → PR1 σ p (R p) (th p) (og p) (ex p) (ba p)
theorem n60 {p : Nat} (h : p < 60) : inr (nI p) 60 ∧ ix (nI p) = p := ⟨nI_in h (by decide), nI_clamp (by omega)⟩
theorem rng {v : Int32} {n : Nat} (hn : n ≤ 1000) : ((0 : Int32) ≤ v ∧ v ≤ nI n - 1) ↔ ∃ p, p < n ∧ v = nI p := by
  obtain ⟨z, hz, rfl⟩ := iz_of v
  have e : nI n - 1 = iz ((n : Int) - 1) := by
    rw [iz_nI, show (1 : Int32) = iz 1 from rfl, iz_sub]
  have c1 : (0 : Int32) ≤ iz z ↔ 0 ≤ z := iz_le (a := 0) ⟨by decide, by decide⟩ hz
  have c2 : iz z ≤ iz ((n : Int) - 1) ↔ z ≤ (n : Int) - 1 := iz_le hz ⟨by omega, by omega⟩
  rw [e, c1, c2]
  constructor
  · intro ⟨h1, h2⟩
    exact ⟨z.toNat, by omega, by rw [iz_nI, show ((z.toNat : Nat) : Int) = z by omega]⟩
  · intro ⟨p, h1, h2⟩
    rw [iz_nI] at h2
    have := (iz_eq hz ⟨by omega, by omega⟩).mp h2
    omega
theorem p_fes {σ : SS} {n : Nat} (h1 : σ.1 1 0 1 = nI n) (hn : n ≤ 60) (hc : n ≤ σ.2.1) (v : Int32) : (∃ p, p < n ∧ v = nI p ∧ f_X6_findEvenScrapped v σ = some (some p, σ)) ∨ ((¬ ∃ p, p < n ∧ v = nI p) ∧ f_X6_findEvenScrapped v σ = some (none, σ)) := by
  unfold f_X6_findEvenScrapped
  rw [h1, p_isFrom, cal_some]
  by_cases q : ∃ p, p < n ∧ v = nI p
  · rw [if_pos ((rng (by omega)).mpr q), if_neg (by decide)]
    obtain ⟨p, p1, rfl⟩ := q
    obtain ⟨g1, g2⟩ := n60 (show p < 60 by omega)
    refine Or.inl ⟨p, p1, rfl, ?_⟩
    rw [chk_p g1, g2, if_pos (show p < σ.2.1 by omega), lt_eq]
  · rw [if_neg (fun z => q ((rng (by omega)).mp z)), if_pos rfl]
    exact Or.inr ⟨q, rfl⟩
theorem PC.find {σ : SS} {n : Nat} {R : Nat → Nat → Int} {th og : Nat → Nat} {ex : Nat → Bool} {ba : Nat → Int} (h : PC σ n R th og ex ba) (v : Int32) : (∃ p, p < n ∧ v = nI p ∧ ex p = true ∧ f_X6_find v σ = some (some p, σ) ∧ f_X8_isPiece v σ = some (1, σ)) ∨ (f_X6_find v σ = some (none, σ) ∧ f_X8_isPiece v σ = some (0, σ)) := by
  obtain ⟨⟨a1, a2, a3⟩, ⟨b1, b2, b3⟩, c⟩ := h
  unfold f_X6_find f_X8_isPiece
  rw [b2, c64_0, p_in, cal_some]
  rcases p_fes b1 a1 a2 v with ⟨p, p1, rfl, p3⟩ | ⟨q, p3⟩
  · obtain ⟨g1, g2⟩ := n60 (show p < 60 by omega)
    obtain ⟨-, -, -, -, ⟨e1, e2⟩, -⟩ := c p p1
    rw [p3, cal_some, if_pos ((rng (by omega)).mpr ⟨p, p1, rfl⟩), if_neg (by decide), chk_p g1, g2, e2]
    simp only [Option.elim]
    rw [e1]
    cases he : ex p with
    | true =>
      refine Or.inl ⟨p, p1, rfl, he, ?_, ?_⟩
      · rw [if_neg (by decide)]
      · rw [if_neg (by decide)]
    | false =>
      refine Or.inr ⟨?_, ?_⟩
      · rw [if_pos (by decide)]
      · rw [if_pos (by decide)]
  · rw [p3, cal_some, if_neg (fun z => q ((rng (by omega)).mp z)), if_pos rfl]
    exact Or.inr ⟨rfl, rfl⟩
/-- a call that changes nothing: both sides answer alike, the model's scratch rows aside -/
def RO (P : Nat → Nat → Nat → Prop) (σ : SS) (F7 F8 : SS → Option (Int32 × SS)) : Prop := ∃ r σ2, F7 σ = some (r, σ) ∧ F8 σ = some (r, σ2) ∧ fri P σ σ2
theorem RO.bad {P : Nat → Nat → Nat → Prop} {σ : SS} {F7 F8 : SS → Option (Int32 × SS)} {r : Int32} (h1 : F7 σ = some (r, σ)) (h2 : F8 σ = some (r, σ)) : RO P σ F7 F8 := ⟨r, σ, h1, h2, fri.rf _ _⟩
theorem c64_1000 : (1000 : Int64) = (1000 : Int32).toInt64 := by decide
theorem c64_m1000 : (-1000 : Int64) = (-1000 : Int32).toInt64 := by decide
theorem c64_4000 : (4000 : Int64) = (4000 : Int32).toInt64 := by decide
theorem c64_m4000 : (-4000 : Int64) = (-4000 : Int32).toInt64 := by decide
theorem c64_10000 : (10000 : Int64) = (10000 : Int32).toInt64 := by decide
theorem c64_m10000 : (-10000 : Int64) = (-10000 : Int32).toInt64 := by decide
theorem c64_2 : (2 : Int64) = (2 : Int32).toInt64 := by decide
theorem in_z {a lo hi : Int32} (h : lo ≤ a ∧ a ≤ hi) : ∃ z, lo.toInt ≤ z ∧ z ≤ hi.toInt ∧ a = iz z := ⟨a.toInt, Int32.le_iff_toInt_le.mp h.1, Int32.le_iff_toInt_le.mp h.2, (Int32.ofInt_toInt a).symm⟩
theorem q_bound {σ : SS} {n : Nat} {R : Nat → Nat → Int} {th og : Nat → Nat} {ex : Nat → Bool} {ba : Nat → Int} (h : PC σ n R th og ex ba) (v1 v2 : Int32) : RO PN σ (f_X7_bound v1 v2) (f_X8_bound v1 v2) := by
  have hn := h.1.1
  rcases h.find v1 with ⟨p, p1, rfl, p3, p4, p5⟩ | ⟨p4, p5⟩
  · obtain ⟨⟨g, s⟩, ⟨hS, hB⟩, -⟩ := h.2.2 p p1
    by_cases q : (0 : Int32) ≤ v2 ∧ v2 ≤ 7
    · obtain ⟨k, -, k2, rfl⟩ := in_of (m := 0) (M := 7) (by decide) (by decide) q
      have hk : k < 8 := by omega
      obtain ⟨n1, n2, n3⟩ := n480 (show p < 60 by omega) hk
      refine ⟨iz (Ez (R p) k), σ, ?_, ?_, fri.rf _ _⟩
      · unfold f_X7_bound
        rw [p4, cal_some]
        simp only [Option.elim]
        rw [p_isFrom, cal_some, if_pos q, if_neg (by decide), p_wholeReach hS.1 (good_sm g s) hk, cal_some]
      · unfold f_X8_bound
        rw [p5, cal_some, if_neg (by decide), c64_0, c64_7, p_in, cal_some, if_pos q, if_neg (by decide), n1, chk_p n2, n3, hB k hk]
    · refine RO.bad (r := 100000) ?_ ?_
      · unfold f_X7_bound
        rw [p4, cal_some]
        simp only [Option.elim]
        rw [p_isFrom, cal_some, if_neg q, if_pos rfl]
      · unfold f_X8_bound
        rw [p5, cal_some, if_neg (by decide), c64_0, c64_7, p_in, cal_some, if_neg q, if_pos rfl]
  · refine RO.bad (r := 100000) ?_ ?_
    · unfold f_X7_bound
      rw [p4, cal_some]
      rfl
    · unfold f_X8_bound
      rw [p5, cal_some, if_pos rfl]
theorem PN_of_PT {r i k : Nat} (h : PT r i k) : PN r i k := Or.inl h
theorem ez_b' {R : Nat → Int} (hG : Good R) (hR : ∀ k, k < 8 → R k ≤ 8000) : ∀ k, k < 8 → -10000 ≤ Ez R k ∧ Ez R k ≤ 10000 := fun k hk => by have := ez_b hG hR k hk; omega
theorem p_family {k : Nat} (hk : k < 6) (σ : SS) : f_X7_familyOf (nI k) σ = some (nI (6 + k / 2), σ) ∧ f_X8_family (nI k) σ = some (nI (6 + k / 2), σ) := by
  have key : ∀ k, k < 6 → (6 + nI k / 2 : Int32) = nI (6 + k / 2) ∧ (if (2 : Int32) ≤ nI k then (if (4 : Int32) ≤ nI k then 8 else 7) else 6 : Int32) = nI (6 + k / 2) := by decide +kernel
  obtain ⟨e1, e2⟩ := key k hk
  unfold f_X7_familyOf f_X8_family
  rw [e1, ← e2]
  refine ⟨by rw [e2], ?_⟩
  simp only [ite_some]
theorem q_about {σ : SS} (hM : MTb σ) {n : Nat} {R : Nat → Nat → Int} {th og : Nat → Nat} {ex : Nat → Bool} {ba : Nat → Int} (h : PC σ n R th og ex ba) (v1 v2 : Int32) : RO PN σ (f_X7_about v1 v2) (f_X8_about v1 v2) := by
  have hn := h.1.1
  rcases h.find v1 with ⟨p, p1, rfl, p3, p4, p5⟩ | ⟨p4, p5⟩
  · obtain ⟨⟨g, s⟩, ⟨hS, hB⟩, ⟨-, t1, t2⟩, ⟨-, o1, o2⟩, -⟩ := h.2.2 p p1
    obtain ⟨g1, g2⟩ := n60 (show p < 60 by omega)
    obtain ⟨σ2, ps, t3, t4, -, -, -, t5⟩ := p_takes g hM (show p < 60 by omega) hB (ez_b' g s)
    have h3 := fit_len g
    have fr2 : fri PN σ σ2 := t5.mono (fun _ _ _ => PN_of_PT)
    have m8 : ∀ q : Prop, q → ((0 : Int32) ≤ v2 ∧ v2 ≤ 4) → True := fun _ _ _ => trivial
    have kf := p_family (kd_lt (R p)) σ
    have kf2 := p_family (kd_lt (R p)) σ2
    unfold RO f_X7_about f_X8_about
    rw [p4, cal_some, p5, cal_some, if_neg (show ¬ (1 : Int32) = 0 by decide), c64_0, c64_4, p_in, cal_some]
    simp only [Option.elim]
    by_cases q0 : v2 = 0
    · subst q0
      rw [if_pos rfl, if_pos (show (0 : Int32) ≤ 0 ∧ (0 : Int32) ≤ 4 by decide), if_neg (show ¬ (1 : Int32) = 0 by decide), t3, cal_some, if_pos rfl, p_kind hS, cal_some, p_kindNow t4 h3, cal_some]
      exact ⟨_, σ2, rfl, rfl, fr2⟩
    · rw [if_neg q0]
      by_cases q1 : v2 = 1
      · subst q1
        rw [if_pos rfl, if_pos (show (0 : Int32) ≤ 1 ∧ (1 : Int32) ≤ 4 by decide), if_neg (show ¬ (1 : Int32) = 0 by decide), t3, cal_some, if_neg (show ¬ (1 : Int32) = 0 by decide), if_pos rfl, hS.2.1, t4.1]
        exact ⟨_, σ2, rfl, rfl, fr2⟩
      · rw [if_neg q1]
        by_cases q2 : v2 = 2
        · subst q2
          rw [if_pos rfl, if_pos (show (0 : Int32) ≤ 2 ∧ (2 : Int32) ≤ 4 by decide), if_neg (show ¬ (1 : Int32) = 0 by decide), t3, cal_some, if_neg (show ¬ (2 : Int32) = 0 by decide), if_neg (show ¬ (2 : Int32) = 1 by decide), if_pos rfl, chk_p g1, g2, t1, t5.1 49 0 p (by unfold PT PG; omega), t2]
          exact ⟨_, σ2, rfl, rfl, fr2⟩
        · rw [if_neg q2]
          by_cases q3 : v2 = 3
          · subst q3
            rw [if_pos rfl, if_pos (show (0 : Int32) ≤ 3 ∧ (3 : Int32) ≤ 4 by decide), if_neg (show ¬ (1 : Int32) = 0 by decide), t3, cal_some, if_neg (show ¬ (3 : Int32) = 0 by decide), if_neg (show ¬ (3 : Int32) = 1 by decide), if_neg (show ¬ (3 : Int32) = 2 by decide), if_pos rfl, chk_p g1, g2, o1, t5.1 50 0 p (by unfold PT PG; omega), o2]
            exact ⟨_, σ2, rfl, rfl, fr2⟩
          · rw [if_neg q3]
            by_cases q4 : v2 = 4
            · subst q4
              rw [if_pos rfl, if_pos (show (0 : Int32) ≤ 4 ∧ (4 : Int32) ≤ 4 by decide), if_neg (show ¬ (1 : Int32) = 0 by decide), t3, cal_some, if_neg (show ¬ (4 : Int32) = 0 by decide), if_neg (show ¬ (4 : Int32) = 1 by decide), if_neg (show ¬ (4 : Int32) = 2 by decide), if_neg (show ¬ (4 : Int32) = 3 by decide), p_kind hS, cal_some, kf.1, cal_some, p_kindNow t4 h3, cal_some, kf2.2, cal_some]
              exact ⟨_, σ2, rfl, rfl, fr2⟩
            · have hno : ¬ ((0 : Int32) ≤ v2 ∧ v2 ≤ 4) := by
                intro z
                obtain ⟨k, -, k2, rfl⟩ := in_of (m := 0) (M := 4) (by decide) (by decide) z
                have : k = 0 ∨ k = 1 ∨ k = 2 ∨ k = 3 ∨ k = 4 := by omega
                rcases this with rfl | rfl | rfl | rfl | rfl
                · exact q0 rfl
                · exact q1 rfl
                · exact q2 rfl
                · exact q3 rfl
                · exact q4 rfl
              rw [if_neg q4, if_neg hno, if_pos rfl]
              exact ⟨_, σ, rfl, rfl, fri.rf _ _⟩
  · refine RO.bad (r := -1) ?_ ?_
    · unfold f_X7_about
      rw [p4, cal_some]
      rfl
    · unfold f_X8_about
      rw [p5, cal_some, if_pos rfl]
