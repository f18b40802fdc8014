/-! ===== PURE: the class: shapes made and changed ===== -/
def P18 (p : Nat) (r i _k : Nat) : Prop := r = 18 ∧ i = p
def mx (r : Nat → Int) (x y : Int) (k : Nat) : Int := max (r k) (mz k x y)
def RB (σ : SS) (p : Nat) (r : Nat → Int) : Prop := ∀ k, k < 8 → σ.1 18 p k = iz (r k) ∧ bd (r k)
theorem RB.fr {P : Nat → Nat → Nat → Prop} {σ τ : SS} {p : Nat} {r : Nat → Int} (h : RB σ p r) (f : fri P σ τ) (hp : ∀ k, ¬ P 18 p k) : RB τ p r := fun k hk => by
  rw [f.1 18 p k (hp k)]
  exact h k hk
theorem stretch_loop {p : Nat} {r : Nat → Int} {x y : Int} (hb : pb x y) : ∀ (s t fuel : Nat) (σ : SS), t + s = 8 → s < fuel → (∀ k, k < 8 → σ.1 18 p k = iz (if k < t then mx r x y k else r k)) → (∀ k, k < 8 → bd (r k)) → ∃ σ', f_X3_stretch_2 fuel p (iz x) (iz y) (nI t) σ = some ((), σ') ∧ RB σ' p (mx r x y) ∧ fri (P18 p) σ σ' := by
  intro s
  induction s with
  | zero =>
    intro t fuel σ ht hf hR hr
    obtain ⟨f, rfl⟩ : ∃ f, fuel = f + 1 := ⟨fuel - 1, by omega⟩
    have : t = 8 := by omega
    subst this
    rw [f_X3_stretch_2, if_pos (by decide)]
    refine ⟨σ, rfl, fun k hk => ⟨?_, ?_⟩, fri.rf _ _⟩
    · rw [hR k hk, if_pos hk]
    · have := hr k hk
      have mb := mz_b hb k hk
      unfold bd mx at *
      omega
  | succ s ih =>
    intro t fuel σ ht hf hR hr
    obtain ⟨f, rfl⟩ : ∃ f, fuel = f + 1 := ⟨fuel - 1, by omega⟩
    have h8 : t < 8 := by omega
    obtain ⟨g1, g2⟩ := n8 h8
    have mb := mz_b hb t h8
    have e0 := hR t h8
    rw [if_neg (by omega)] at e0
    rw [f_X3_stretch_2, if_neg (le8 h8), chk_p g1, p_measure h8, cal_some, chk_p g1, g2, e0, lt_eq, lt_eq, nI_1, iz_ifmax (hr t h8) ⟨by omega, by omega⟩]
    have f1 : fri (P18 p) σ (up σ 18 p t (iz (max (r t) (mz t x y)))) := fri.up (fri.rf _ _) ⟨rfl, rfl⟩
    obtain ⟨σ', q1, q2, q3⟩ := ih (t + 1) f (up σ 18 p t (iz (max (r t) (mz t x y)))) (by omega) (by omega) (fun k hk => by
      by_cases q : k = t
      · rw [q, if_pos (by omega)]
        simp only [up_rd, and_self, if_true]
        rfl
      · rw [up_rd, if_neg (by omega), hR k hk]
        by_cases q2 : k < t
        · rw [if_pos q2, if_pos (by omega)]
        · rw [if_neg q2, if_neg (by omega)]) hr
    exact ⟨σ', q1, q2, f1.tr q3⟩
theorem p_stretch {σ : SS} {p : Nat} {r : Nat → Int} (h : RB σ p r) {x y : Int} (hb : pb x y) : ∃ σ', f_X3_stretch p (iz x) (iz y) σ = some ((), σ') ∧ RB σ' p (mx r x y) ∧ fri (P18 p) σ σ' := by
  obtain ⟨σ', q1, q2⟩ := stretch_loop (p := p) (r := r) hb 8 0 FU σ rfl (by show 8 < 5000; omega) (fun k hk => by rw [if_neg (by omega)]; exact (h k hk).1) (fun k hk => (h k hk).2)
  exact ⟨σ', by rw [f_X3_stretch, ← nI_0]; exact q1, q2⟩
theorem fill_loop {p : Nat} : ∀ (s t fuel : Nat) (σ : SS), t + s = 8 → s < fuel → (∀ k, k < t → σ.1 18 p k = -1000000) → ∃ σ', f_J7_fill_53178_5 fuel p (-1000000) (nI t) 8 σ = some ((), σ') ∧ (∀ k, k < 8 → σ'.1 18 p k = -1000000) ∧ fri (P18 p) σ σ' := by
  intro s
  induction s with
  | zero =>
    intro t fuel σ ht hf hR
    obtain ⟨f, rfl⟩ : ∃ f, fuel = f + 1 := ⟨fuel - 1, by omega⟩
    have : t = 8 := by omega
    subst this
    rw [f_J7_fill_53178_5, if_pos (by decide)]
    exact ⟨σ, rfl, hR, fri.rf _ _⟩
  | succ s ih =>
    intro t fuel σ ht hf hR
    obtain ⟨f, rfl⟩ : ∃ f, fuel = f + 1 := ⟨fuel - 1, by omega⟩
    have h8 : t < 8 := by omega
    obtain ⟨g1, g2⟩ := n8 h8
    have f1 : fri (P18 p) σ (up σ 18 p t (-1000000)) := fri.up (fri.rf _ _) ⟨rfl, rfl⟩
    rw [f_J7_fill_53178_5, if_neg (le8 h8), chk_p g1, g2, lt_eq, lt_eq, nI_1]
    obtain ⟨σ', q1, q2, q3⟩ := ih (t + 1) f (up σ 18 p t (-1000000)) (by omega) (by omega) (fun k hk => by
      by_cases q : k = t
      · rw [q]
        simp only [up_rd, and_self, if_true]
      · rw [up_rd, if_neg (by omega)]
        exact hR k (by omega))
    exact ⟨σ', q1, q2, f1.tr q3⟩
def mnR (_k : Nat) : Int := -1000000
theorem p_clear (σ : SS) (p : Nat) : ∃ σ', f_X3_clearReach p σ = some ((), σ') ∧ RB σ' p mnR ∧ fri (P18 p) σ σ' := by
  obtain ⟨σ', q1, q2, q3⟩ := fill_loop (p := p) 8 0 FU σ rfl (by show 8 < 5000; omega) (fun k hk => absurd hk (Nat.not_lt_zero _))
  refine ⟨σ', ?_, fun k hk => ⟨(q2 k hk).trans rfl, ⟨by unfold mnR; decide, by unfold mnR; decide⟩⟩, q3⟩
  rw [f_X3_clearReach, f_J7_fill_53178, ← nI_0, q1, cal_some]
/-- a shape's places -/
def PSa (p : Nat) (r i k : Nat) : Prop := P18 p r i k ∨ PSh p r i k
def boxR (w h : Int) (k : Nat) : Int := match k with
  | 0 => 2 * w
  | 1 => 2 * h
  | 2 => 2 * w + 2 * h
  | 3 => 2 * w
  | 4 => 0
  | 5 => 0
  | 6 => 0
  | _ => 2 * h
def boxE (w h : Int) (k : Nat) : Int := match k with
  | 0 => w
  | 1 => h
  | 2 => w + h
  | 3 => w
  | 4 => 0
  | 5 => 0
  | 6 => 0
  | _ => h
theorem box_fit {w h : Int} (hw : 0 < w) (hh : 0 < h) : Fit (boxE w h) (boxR w h) := by
  refine ⟨?_, ?_, ?_, ?_⟩
  · apply all8 <;> simp only [ld, boxR] <;> omega
  · simp only [boxR]
    omega
  · apply all8 <;> simp only [boxR, boxE] <;> omega
  · apply all8 <;> left <;> simp only [boxR, boxE] <;> omega
theorem box_ez (w h : Int) : ∀ k, k < 8 → Ez (boxR w h) k = boxE w h k := by
  unfold Ez
  apply all8 <;> simp only [boxR, boxE] <;> omega
theorem box_good {w h : Int} (hw : 0 < w) (hh : 0 < h) : Good (boxR w h) := fit_cg (box_fit hw hh) (fun k hk => (box_ez w h k hk).symm)
theorem p_box {σ : SS} {p : Nat} {w h : Int} (hw : 1 ≤ w ∧ w ≤ 1000) (hh : 1 ≤ h ∧ h ≤ 1000) : ∃ σ', f_X3_becomeBox p (iz w) (iz h) σ = some ((), σ') ∧ SH σ' p (boxR w h) ∧ fri (PSa p) σ σ' := by
  obtain ⟨σ1, a1, a2, a3⟩ := p_clear σ p
  have z0 : (0 : Int32) = iz 0 := rfl
  obtain ⟨σ2, b1, b2, b3⟩ := p_stretch a2 (x := 0) (y := 0) ⟨⟨by omega, by omega⟩, by omega, by omega⟩
  obtain ⟨σ3, c1, c2, c3⟩ := p_stretch b2 (x := 2 * w) (y := 0) ⟨⟨by omega, by omega⟩, by omega, by omega⟩
  obtain ⟨σ4, d1, d2, d3⟩ := p_stretch c2 (x := 2 * w) (y := 2 * h) ⟨⟨by omega, by omega⟩, by omega, by omega⟩
  obtain ⟨σ5, e1, e2, e3⟩ := p_stretch d2 (x := 0) (y := 2 * h) ⟨⟨by omega, by omega⟩, by omega, by omega⟩
  have hR : ∀ k, k < 8 → σ5.1 18 p k = iz (boxR w h k) := fun k hk => by
    rw [(e2 k hk).1]
    have : mx (mx (mx (mx mnR 0 0) (2 * w) 0) (2 * w) (2 * h)) 0 (2 * h) k = boxR w h k := by
      revert k
      apply all8 <;> simp only [mx, mnR, mz, boxR] <;> omega
    rw [this]
  have hm : Sm (boxR w h) := by
    unfold Sm
    apply all8 <;> simp only [boxR] <;> omega
  obtain ⟨σ6, g1, g2, g3⟩ := p_settle hm hR
  refine ⟨σ6, ?_, g2, ((((((a3.tr b3).tr c3).tr d3).tr e3).mono (fun _ _ _ h => Or.inl h)).tr (g3.mono (fun _ _ _ h => Or.inr h)))⟩
  unfold f_X3_becomeBox
  rw [a1, cal_some, z0, b1, cal_some, iz2, iz_mul, c1, cal_some, iz_mul, d1, cal_some, e1, cal_some, g1, cal_some]
theorem p_becomeReach {σ : SS} {p q : Nat} {R : Nat → Int} (hq : q < 8) (hm : Sm R) (hR : ∀ k, k < 8 → σ.1 6 0 (8 * q + k) = iz (R k)) : ∃ σ', f_X3_becomeReach p (nI (8 * q)) σ = some ((), σ') ∧ SH σ' p R ∧ fri (PSa p) σ σ' := by
  have e1 : ix (nI (8 * q)) = 8 * q := nI_clamp (by omega)
  have e8 : ix (8 : Int32) = 8 := by decide
  have e0 : ix (0 : Int32) = 0 := by decide
  have f1 : fri (PSa p) σ (cpy σ 6 0 (8 * q) 18 p 0 8) := ⟨fun r i k h => by
    show (if r = 18 ∧ i = p then _ else _) = _
    rw [if_neg (fun z : r = 18 ∧ i = p => h (Or.inl z))], rfl⟩
  have hR1 : ∀ k, k < 8 → (cpy σ 6 0 (8 * q) 18 p 0 8).1 18 p k = iz (R k) := fun k hk => by
    show (if 18 = 18 ∧ p = p then va_cpy (σ.1 6 0) (σ.1 18 p) (8 * q) 0 8 k else _) = _
    rw [if_pos ⟨rfl, rfl⟩, pk_cpy_in (by omega) (by omega), Nat.sub_zero]
    exact hR k hk
  obtain ⟨σ2, g1, g2, g3⟩ := p_settle hm hR1
  refine ⟨σ2, ?_, g2, f1.tr (g3.mono (fun _ _ _ h => Or.inr h))⟩
  unfold f_X3_becomeReach
  rw [e1, e8, e0, chk_p ⟨nI_pos (by omega), by decide, by decide, by omega, by omega⟩, lt_eq, g1, cal_some]
def shR (R : Nat → Int) (x y : Int) (k : Nat) : Int := R k + 2 * mz k x y
theorem shift_loop {p : Nat} {R : Nat → Int} {x y : Int} : ∀ (s t fuel : Nat) (σ : SS), t + s = 8 → s < fuel → (∀ k, k < 8 → σ.1 18 p k = iz (if k < t then shR R x y k else R k)) → ∃ σ', f_X3_shift_2 fuel p (iz x) (iz y) (nI t) σ = f_X3_shift_31 p σ' ∧ (∀ k, k < 8 → σ'.1 18 p k = iz (shR R x y k)) ∧ fri (P18 p) σ σ' := by
  intro s
  induction s with
  | zero =>
    intro t fuel σ ht hf hR
    obtain ⟨f, rfl⟩ : ∃ f, fuel = f + 1 := ⟨fuel - 1, by omega⟩
    have : t = 8 := by omega
    subst this
    rw [f_X3_shift_2, if_pos (by decide)]
    exact ⟨σ, rfl, fun k hk => by rw [hR k hk, if_pos hk], fri.rf _ _⟩
  | succ s ih =>
    intro t fuel σ ht hf hR
    obtain ⟨f, rfl⟩ : ∃ f, fuel = f + 1 := ⟨fuel - 1, by omega⟩
    have h8 : t < 8 := by omega
    obtain ⟨g1, g2⟩ := n8 h8
    have e0 := hR t h8
    rw [if_neg (by omega)] at e0
    rw [f_X3_shift_2, if_neg (le8 h8), chk_p g1, p_measure h8, cal_some, chk_p g1, g2, e0, lt_eq, lt_eq, nI_1, iz2, iz_mul, iz_add]
    have f1 : fri (P18 p) σ (up σ 18 p t (iz (R t + 2 * mz t x y))) := fri.up (fri.rf _ _) ⟨rfl, rfl⟩
    obtain ⟨σ', q1, q2, q3⟩ := ih (t + 1) f (up σ 18 p t (iz (R t + 2 * mz t x y))) (by omega) (by omega) (fun k hk => by
      by_cases q : k = t
      · rw [q, if_pos (by omega)]
        simp only [up_rd, and_self, if_true]
        rfl
      · rw [up_rd, if_neg (by omega), hR k hk]
        by_cases q2 : k < t
        · rw [if_pos q2, if_pos (by omega)]
        · rw [if_neg q2, if_neg (by omega)])
    exact ⟨σ', q1, q2, f1.tr q3⟩
theorem p_shift {σ : SS} {p : Nat} {R : Nat → Int} {x y : Int} (hR : ∀ k, k < 8 → σ.1 18 p k = iz (R k)) (hm : Sm (shR R x y)) : ∃ σ', f_X3_shift p (iz x) (iz y) σ = some ((), σ') ∧ SH σ' p (shR R x y) ∧ fri (PSa p) σ σ' := by
  obtain ⟨σ1, q1, q2, q3⟩ := shift_loop (p := p) (R := R) (x := x) (y := y) 8 0 FU σ rfl (by show 8 < 5000; omega) (fun k hk => by rw [if_neg (by omega)]; exact hR k hk)
  obtain ⟨σ2, g1, g2, g3⟩ := p_settle hm q2
  refine ⟨σ2, ?_, g2, (q3.mono (fun _ _ _ h => Or.inl h)).tr (g3.mono (fun _ _ _ h => Or.inr h))⟩
  rw [f_X3_shift, ← nI_0, q1, f_X3_shift_31, g1, cal_some]
/-- which direction's reach becomes that of direction k -/
def trn (way k : Nat) : Nat := match way with
  | 0 => (match k with
    | 0 => 5
    | 1 => 0
    | 2 => 3
    | 3 => 6
    | 4 => 1
    | 5 => 4
    | 6 => 7
    | _ => 2)
  | 1 => (match k with
    | 0 => 4
    | 1 => 1
    | 2 => 7
    | 3 => 6
    | 4 => 0
    | 5 => 5
    | 6 => 3
    | _ => 2)
  | _ => (match k with
    | 0 => 1
    | 1 => 0
    | 2 => 2
    | 3 => 7
    | 4 => 5
    | 5 => 4
    | 6 => 6
    | _ => 3)
theorem trn_sf : ∀ w, w < 3 → ∀ k, k < 8 → sfn 3 (8 * w + k) = nI (trn w k) ∧ trn w k < 8 ∧ nI w * (8 : Int32) + nI k = nI (8 * w + k) := by decide +kernel
theorem swing_loop {p w : Nat} (hw : w < 3) {R : Nat → Int} : ∀ (s t fuel : Nat) (σ : SS), t + s = 8 → s < fuel → (∀ k, k < 8 → σ.1 19 p k = iz (R k)) → (∀ k, k < t → σ.1 18 p k = iz (R (trn w k))) → ∃ σ', f_X3_swing_17 fuel p (nI w) (nI t) σ = f_X3_swing_50 p σ' ∧ (∀ k, k < 8 → σ'.1 18 p k = iz (R (trn w k))) ∧ fri (P18 p) σ σ' := by
  intro s
  induction s with
  | zero =>
    intro t fuel σ ht hf hC hR
    obtain ⟨f, rfl⟩ : ∃ f, fuel = f + 1 := ⟨fuel - 1, by omega⟩
    have : t = 8 := by omega
    subst this
    rw [f_X3_swing_17, if_pos (by decide)]
    exact ⟨σ, rfl, hR, fri.rf _ _⟩
  | succ s ih =>
    intro t fuel σ ht hf hC hR
    obtain ⟨f, rfl⟩ : ∃ f, fuel = f + 1 := ⟨fuel - 1, by omega⟩
    have h8 : t < 8 := by omega
    obtain ⟨g1, g2⟩ := n8 h8
    obtain ⟨t1, t2, t3⟩ := trn_sf w hw t h8
    obtain ⟨g3, g4⟩ := n8 t2
    have i24 : inr (nI (8 * w + t)) 24 := nI_in (by omega) (by decide)
    have c24 : ix (nI (8 * w + t)) = 8 * w + t := nI_clamp (by omega)
    rw [f_X3_swing_17, if_neg (le8 h8), t3, chk_p i24, c24, t1, chk_p g3, chk_p g1, g2, g4, hC _ t2, lt_eq, lt_eq, nI_1]
    have f1 : fri (P18 p) σ (up σ 18 p t (iz (R (trn w t)))) := fri.up (fri.rf _ _) ⟨rfl, rfl⟩
    obtain ⟨σ', q1, q2, q3⟩ := ih (t + 1) f (up σ 18 p t (iz (R (trn w t)))) (by omega) (by omega) (fun k hk => by rw [f1.1 19 p k (by unfold P18; omega)]; exact hC k hk) (fun k hk => by
      by_cases q : k = t
      · rw [q]
        simp only [up_rd, and_self, if_true]
      · rw [up_rd, if_neg (by omega)]
        exact hR k (by omega))
    exact ⟨σ', q1, q2, f1.tr q3⟩
def swR (w : Nat) (R : Nat → Int) (k : Nat) : Int := R (trn w k)
theorem p_swing {σ : SS} {p w : Nat} (hw : w < 3) {R : Nat → Int} (hR : ∀ k, k < 8 → σ.1 18 p k = iz (R k)) (hm : Sm R) : ∃ σ', f_X3_swing p (nI w) σ = some ((), σ') ∧ SH σ' p (swR w R) ∧ fri (PSa p) σ σ' := by
  have e8 : ix (8 : Int32) = 8 := by decide
  have e0 : ix (0 : Int32) = 0 := by decide
  have f1 : fri (PSa p) σ (cpy σ 18 p 0 19 p 0 8) := ⟨fun r i k h => by
    show (if r = 19 ∧ i = p then _ else _) = _
    rw [if_neg (fun z => h (Or.inr ⟨z.2, Or.inr (by omega)⟩))], rfl⟩
  have hC : ∀ k, k < 8 → (cpy σ 18 p 0 19 p 0 8).1 19 p k = iz (R k) := fun k hk => by
    show (if 19 = 19 ∧ p = p then va_cpy (σ.1 18 p) (σ.1 19 p) 0 0 8 k else _) = _
    rw [if_pos ⟨rfl, rfl⟩, pk_cpy_in (by omega) (by omega), Nat.sub_zero, Nat.zero_add]
    exact hR k hk
  obtain ⟨σ1, q1, q2, q3⟩ := swing_loop (p := p) hw 8 0 FU _ rfl (by show 8 < 5000; omega) hC (fun k hk => absurd hk (Nat.not_lt_zero _))
  have hm2 : Sm (swR w R) := fun k hk => hm _ (trn_sf w hw k hk).2.1
  obtain ⟨σ2, g1, g2, g3⟩ := p_settle hm2 q2
  refine ⟨σ2, ?_, g2, f1.tr ((q3.mono (fun _ _ _ h => Or.inl h)).tr (g3.mono (fun _ _ _ h => Or.inr h)))⟩
  rw [f_X3_swing, e8, e0, chk_p ⟨by decide, by decide, by decide, by omega, by omega⟩, lt_eq, ← nI_0, q1, f_X3_swing_50, g1, cal_some]
