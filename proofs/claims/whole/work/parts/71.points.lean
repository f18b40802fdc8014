/-! ===== PURE: the model's points ===== -/
theorem iz_div {a b : Int} (ha : bd a) (hb : bd b) : iz a / iz b = iz (a.tdiv b) := by
  unfold bd at ha hb
  exact (Int32.ofInt_tdiv (a := a) (b := b) (by show (-2147483648 : Int) ≤ a; omega) (by show a ≤ (2147483647 : Int); omega) (by show (-2147483648 : Int) ≤ b; omega) (by show b ≤ (2147483647 : Int); omega)).symm
def ar (r : Nat) : Nat := rd ((r + 3) % 8)
/-- the model's tables -/
def MTb (σ : SS) : Prop := ∀ k, k < 8 → σ.1 40 0 k = iz (nz k) ∧ σ.1 41 0 k = iz (wz k) ∧ σ.1 42 0 k = nI (ar k)
def letz (e : Nat → Int) (x y : Int) : Prop := ∀ k, k < 8 → mz k x y ≤ 2 * e k
def EB (σ : SS) (e : Nat → Int) : Prop := ∀ k, k < 8 → σ.1 53 0 k = iz (e k) ∧ -10000 ≤ e k ∧ e k ≤ 10000
def pb (x y : Int) : Prop := (-100000 ≤ x ∧ x ≤ 100000) ∧ (-100000 ≤ y ∧ y ≤ 100000)
theorem nz_b : ∀ k, k < 8 → (-1 ≤ nz k ∧ nz k ≤ 1) ∧ (-1 ≤ wz k ∧ wz k ≤ 1) := by apply all8 <;> decide
theorem mz_b {x y : Int} (h : pb x y) : ∀ k, k < 8 → -200000 ≤ mz k x y ∧ mz k x y ≤ 200000 := by
  unfold pb at h
  apply all8 <;> simp only [mz] <;> omega
theorem az_b {x y : Int} (h : pb x y) : ∀ k, k < 8 → -200000 ≤ az k x y ∧ az k x y ≤ 200000 := by
  unfold pb at h
  apply all8 <;> simp only [az, nz, wz] <;> omega
theorem mc_m {σ : SS} (hM : MTb σ) {k : Nat} (hk : k < 8) (x y : Int) : σ.1 40 0 k * iz x + σ.1 41 0 k * iz y = iz (mz k x y) := by
  rw [(hM k hk).1, (hM k hk).2.1, iz_mul, iz_mul, iz_add, mz_eq x y k hk]
theorem mc_a {σ : SS} (hM : MTb σ) {k : Nat} (hk : k < 8) (x y : Int) : σ.1 40 0 k * iz y - σ.1 41 0 k * iz x = iz (az k x y) := by
  rw [(hM k hk).1, (hM k hk).2.1, iz_mul, iz_mul, iz_sub]
  rfl
theorem iz2 : (2 : Int32) = iz 2 := rfl
theorem isLet_loop {σ : SS} {e : Nat → Int} (hM : MTb σ) (he : EB σ e) {x y : Int} (hb : pb x y) : ∀ (s t fuel : Nat), t + s = 8 → s < fuel → ((∀ k, t ≤ k → k < 8 → mz k x y ≤ 2 * e k) → f_X8_isLet_2 fuel (iz x) (iz y) (nI t) σ = some (1, σ)) ∧ (¬ (∀ k, t ≤ k → k < 8 → mz k x y ≤ 2 * e k) → f_X8_isLet_2 fuel (iz x) (iz y) (nI t) σ = some (0, σ)) := by
  intro s
  induction s with
  | zero =>
    intro t fuel ht hf
    obtain ⟨f, rfl⟩ : ∃ f, fuel = f + 1 := ⟨fuel - 1, by omega⟩
    have : t = 8 := by omega
    subst this
    rw [f_X8_isLet_2, if_pos (by decide)]
    exact ⟨fun _ => rfl, fun h => absurd (fun k h1 h2 => by omega) h⟩
  | succ s ih =>
    intro t fuel ht hf
    obtain ⟨f, rfl⟩ : ∃ f, fuel = f + 1 := ⟨fuel - 1, by omega⟩
    have h8 : t < 8 := by omega
    obtain ⟨g1, g2⟩ := n8 h8
    obtain ⟨e1, e2, e3⟩ := he t h8
    have mb := mz_b hb t h8
    rw [f_X8_isLet_2, if_neg (le8 h8), chk_p g1, chk_p g1, chk_p g1, g2, mc_m hM h8, e1, iz2, iz_mul]
    have hc : iz (mz t x y) ≤ iz (2 * e t) ↔ mz t x y ≤ 2 * e t := iz_le ⟨by omega, by omega⟩ ⟨by omega, by omega⟩
    obtain ⟨i1, i2⟩ := ih (t + 1) f (by omega) (by omega)
    by_cases q : mz t x y ≤ 2 * e t
    · rw [if_pos (hc.mpr q)]
      show (_ → f_X8_isLet_2 f (iz x) (iz y) (nI t + 1) σ = _) ∧ (_ → f_X8_isLet_2 f (iz x) (iz y) (nI t + 1) σ = _)
      rw [nI_1]
      refine ⟨fun h => i1 (fun k h1 h2 => h k (by omega) h2), fun h => i2 (fun z => h (fun k h1 h2 => ?_))⟩
      by_cases qq : k = t
      · rw [qq]; exact q
      · exact z k (by omega) h2
    · rw [if_neg (fun z => q (hc.mp z))]
      exact ⟨fun h => absurd (h t (Nat.le_refl _) h8) q, fun _ => rfl⟩
theorem p_isLet {σ : SS} {e : Nat → Int} (hM : MTb σ) (he : EB σ e) {x y : Int} (hb : pb x y) : (letz e x y → f_X8_isLet (iz x) (iz y) σ = some (1, σ)) ∧ (¬ letz e x y → f_X8_isLet (iz x) (iz y) σ = some (0, σ)) := by
  obtain ⟨h1, h2⟩ := isLet_loop hM he hb 8 0 FU (by decide) (by show (8 : Nat) < 5000; omega)
  exact ⟨fun h => h1 (fun k _ hk => h k hk), fun h => h2 (fun z => h (fun k hk => z k (Nat.zero_le _) hk))⟩
abbrev ZZ : Type := Int × Int
def gp (ps : List ZZ) (i : Nat) : ZZ := ps.getD i (0, 0)
theorem gp_lt {l : List ZZ} {a : ZZ} {i : Nat} (h : i < l.length) : gp (l ++ [a]) i = gp l i := by
  simp [gp, List.getD, List.getElem?_append_left h]
theorem gp_eq {l : List ZZ} {a : ZZ} : gp (l ++ [a]) l.length = a := by
  simp [gp, List.getD]
theorem gp_mem {l : List ZZ} {i : Nat} (h : i < l.length) : gp l i ∈ l := by
  have : gp l i = l[i] := by simp [gp, List.getD, h]
  rw [this]
  exact List.getElem_mem h
theorem gp_of {l : List ZZ} {a : ZZ} (h : a ∈ l) : ∃ i, i < l.length ∧ gp l i = a := by
  obtain ⟨i, hi, e⟩ := List.getElem_of_mem h
  exact ⟨i, hi, by simp [gp, List.getD, hi, e]⟩
/-- the points that were found -/
def PTS (σ : SS) (ps : List ZZ) : Prop := σ.1 25 0 14 = nI ps.length ∧ ∀ i, i < ps.length → σ.1 55 0 i = iz (gp ps i).1 ∧ σ.1 56 0 i = iz (gp ps i).2
def PP (r _i k : Nat) : Prop := r = 55 ∨ r = 56 ∨ (r = 25 ∧ k = 14)
def PB (ps : List ZZ) : Prop := ∀ q, q ∈ ps → pb q.1 q.2
theorem n32 {n : Nat} (h : n < 32) : inr (nI n) 32 ∧ ix (nI n) = n := ⟨nI_in h (by decide), nI_clamp (by omega)⟩
theorem point_push {σ : SS} {ps : List ZZ} (h : PTS σ ps) (hl : ps.length < 32) (x y : Int) : ∃ σ', f_X8_point_65 (iz x) (iz y) 0 σ = some ((), σ') ∧ PTS σ' (ps ++ [(x, y)]) ∧ fri PP σ σ' := by
  obtain ⟨h1, h2⟩ := h
  obtain ⟨g1, g2⟩ := n32 hl
  refine ⟨up (up (up σ 55 0 ps.length (iz x)) 56 0 ps.length (iz y)) 25 0 14 (nI (ps.length + 1)), ?_, ⟨?_, fun i hi => ?_⟩, ?_⟩
  · unfold f_X8_point_65
    rw [if_pos rfl]
    simp (config := { decide := true }) only [lt_, up_rd, false_and, if_false, h1, g2, chk_p g1, nI_1]
  · simp (config := { decide := true }) only [up_rd, and_self, if_true, List.length_append, List.length_singleton]
  · rw [List.length_append, List.length_singleton] at hi
    by_cases q : i = ps.length
    · rw [q, gp_eq]
      refine ⟨?_, ?_⟩ <;> simp (config := { decide := true }) only [up_rd, and_self, if_true, false_and, if_false]
    · rw [gp_lt (by omega)]
      obtain ⟨a1, a2⟩ := h2 i (by omega)
      refine ⟨?_, ?_⟩ <;> simp (config := { decide := true }) only [up_rd, q, and_false, false_and, if_false] <;> assumption
  · refine fri.up (fri.up (fri.up (fri.rf _ _) ?_) ?_) ?_ <;> (unfold PP; omega)
theorem point_loop {σ : SS} {ps : List ZZ} (h : PTS σ ps) (hp : PB ps) (hl : ps.length < 32) {x y : Int} (hb : pb x y) : ∀ (s t fuel : Nat), t + s = ps.length → s + 1 < fuel → ∃ σ' ps', f_X8_point_18 fuel (iz x) (iz y) 0 (nI t) σ = some ((), σ') ∧ PTS σ' ps' ∧ (x, y) ∈ ps' ∧ (ps' = ps ∨ ps' = ps ++ [(x, y)]) ∧ fri PP σ σ' := by
  have h1 := h.1
  intro s
  induction s with
  | zero =>
    intro t fuel ht hf
    obtain ⟨f, rfl⟩ : ∃ f, fuel = f + 1 := ⟨fuel - 1, by omega⟩
    have : t = ps.length := by omega
    subst this
    rw [f_X8_point_18, h1, if_pos (nI_le (Nat.le_refl _) (by omega))]
    obtain ⟨σ', q1, q2, q3⟩ := point_push h hl x y
    exact ⟨σ', _, q1, q2, by simp, Or.inr rfl, q3⟩
  | succ s ih =>
    intro t fuel ht hf
    obtain ⟨f, rfl⟩ : ∃ f, fuel = f + 1 := ⟨fuel - 1, by omega⟩
    obtain ⟨f2, rfl⟩ : ∃ f2, f = f2 + 1 := ⟨f - 1, by omega⟩
    obtain ⟨g1, g2⟩ := n32 (show t < 32 by omega)
    obtain ⟨a1, a2⟩ := h.2 t (by omega)
    have hq := hp _ (gp_mem (show t < ps.length by omega))
    unfold pb at hq hb
    have ex : iz (gp ps t).1 = iz x ↔ (gp ps t).1 = x := iz_eq ⟨by omega, by omega⟩ ⟨by omega, by omega⟩
    have ey : iz (gp ps t).2 = iz y ↔ (gp ps t).2 = y := iz_eq ⟨by omega, by omega⟩ ⟨by omega, by omega⟩
    have next : f_X8_point_57 (f_X8_point_18 (f2 + 1)) (iz x) (iz y) (nI t) σ = f_X8_point_18 (f2 + 1) (iz x) (iz y) 0 (nI (t + 1)) σ := by
      show f_X8_point_18 (f2 + 1) (iz x) (iz y) 0 (nI t + 1) σ = _
      rw [nI_1]
    have go := ih (t + 1) (f2 + 1) (by omega) (by omega)
    rw [f_X8_point_18, h1, if_neg (nI_ge (by omega) (by omega)), if_pos rfl, chk_p g1, g2, a1]
    by_cases qx : (gp ps t).1 = x
    · rw [if_pos (ex.mpr qx), chk_p g1, a2]
      by_cases qy : (gp ps t).2 = y
      · rw [if_pos (ey.mpr qy)]
        refine ⟨σ, ps, ?_, h, ?_, Or.inl rfl, fri.rf _ _⟩
        · show f_X8_point_18 (f2 + 1) (iz x) (iz y) 1 (nI t + 1) σ = _
          rw [f_X8_point_18]
          have e65 : f_X8_point_65 (iz x) (iz y) 1 σ = some ((), σ) := by
            unfold f_X8_point_65
            rw [if_neg (by decide)]
          rw [if_neg (show ¬ (1 : Int32) = 0 by decide), e65]
          split <;> rfl
        · have : gp ps t = (x, y) := by rw [← qx, ← qy]
          rw [← this]
          exact gp_mem (by omega)
      · rw [if_neg (fun z => qy (ey.mp z)), next]
        exact go
    · rw [if_neg (fun z => qx (ex.mp z)), next]
      exact go
theorem p_point {σ : SS} {e : Nat → Int} {ps : List ZZ} (hM : MTb σ) (he : EB σ e) (h : PTS σ ps) (hp : PB ps) (hl : ps.length < 32) {x y : Int} (hb : pb x y) : ∃ σ' ps', f_X8_point (iz x) (iz y) σ = some ((), σ') ∧ PTS σ' ps' ∧ (letz e x y → (x, y) ∈ ps') ∧ (ps' = ps ∨ (ps' = ps ++ [(x, y)] ∧ letz e x y)) ∧ fri PP σ σ' := by
  obtain ⟨l1, l2⟩ := p_isLet hM he hb
  unfold f_X8_point
  by_cases q : letz e x y
  · rw [l1 q, cal_some, if_neg (by decide)]
    obtain ⟨σ', ps', q1, q2, q3, q4, q5⟩ := point_loop h hp hl hb ps.length 0 FU (by omega) (by show ps.length + 1 < 5000; omega)
    refine ⟨σ', ps', q1, q2, fun _ => q3, ?_, q5⟩
    rcases q4 with q4 | q4
    · exact Or.inl q4
    · exact Or.inr ⟨q4, q⟩
  · rw [l2 q, cal_some, if_pos rfl]
    refine ⟨σ, ps, ?_, h, fun z => absurd z q, Or.inl rfl, fri.rf _ _⟩
    show f_X8_point_18 (4999 + 1) (iz x) (iz y) 1 0 σ = _
    rw [f_X8_point_18]
    have e65 : f_X8_point_65 (iz x) (iz y) 1 σ = some ((), σ) := by
      unfold f_X8_point_65
      rw [if_neg (by decide)]
    rw [if_neg (show ¬ (1 : Int32) = 0 by decide), e65]
    split <;> rfl
