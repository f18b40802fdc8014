/-! ===== PURE: the model: do two shapes overlap; inside ===== -/
theorem side_any {σ : SS} {e : Nat → Int} {ps : List ZZ} (hM : MTb σ) (he : EB σ e) (hP : PTS σ ps) (hB : PB ps) (hn : ps.length ≤ 28) {k : Nat} (hk : k < 8) {n : Nat} (hs : σ.1 25 0 17 = nI n) (h8 : n < 8) : ∃ σ', f_X8_findSide (nI k) σ = some ((), σ') ∧ (σ' = σ ∨ ∃ P Q, σ' = pushS σ n k P Q) := by
  obtain ⟨b, d, h1, h2⟩ := side_loop hM he hP hB hn hk ps.length 0 FU (-4) (-4) (by omega) (by show ps.length < 5000; omega) (Or.inl ⟨rfl, rfl, fun i hi => absurd hi (Nat.not_lt_zero _)⟩)
  have h3 : f_X8_findSide (nI k) σ = f_X8_findSide_185 (nI k) b d σ := h2
  rw [h3]
  by_cases q : b = d
  · exact ⟨σ, by rw [f_X8_findSide_185, if_pos q], Or.inl rfl⟩
  · rcases h1 with ⟨e1, e2, -⟩ | ⟨i, j, hi, hj, e1, e2, -⟩
    · exact absurd (by rw [e1, e2]) q
    · have ne : i ≠ j := by
        intro z
        exact q (by rw [e1, e2, z])
      exact ⟨_, by rw [e1, e2, side_push hP hn hs h8 hi hj ne], Or.inr ⟨_, _, rfl⟩⟩
theorem line_pt {x y u v : Int} : ∀ k0, k0 < 8 → ∀ k, k < 8 → k ≠ k0 → k ≠ opp k0 → mz k x y = mz k u v → mz k0 x y = mz k0 u v → az k x y = az k u v := by
  apply all8 <;> apply all8 <;> intro h1 h2 h3 h4 <;> simp only [mz, opp] at h1 h2 h3 h4 <;> simp only [az, nz, wz] <;> omega
def c2f (k0 : Nat) : Nat → Nat
  | 0 => 0
  | t + 1 => c2f k0 t + (if ar t = k0 ∨ ar t = opp k0 then 1 else 0)
theorem c2f_8 : ∀ k0, k0 < 8 → c2f k0 8 ≤ 2 := by decide
theorem c2f_t {k0 : Nat} (h : k0 < 8) {t : Nat} (ht : t ≤ 8) : c2f k0 t ≤ 2 := by
  have key : ∀ k0, k0 < 8 → ∀ t, t < 9 → c2f k0 t ≤ 2 := by decide
  exact key k0 h t (by omega)
theorem deg_loop {e : Nat → Int} {ps : List ZZ} (hA : PA e ps) {k0 : Nat} (hk0 : k0 < 8) {c0 : Int} (h0 : ∀ q, q ∈ ps → mz k0 q.1 q.2 = c0) : ∀ (s t fuel : Nat) (σ : SS) (n : Nat), t + s = 8 → s < fuel → MTb σ → EB σ e → PTS σ ps → σ.1 25 0 17 = nI n → n ≤ c2f k0 t → ∃ σ' n', f_X8_findSides_11 fuel (nI t) σ = f_X8_findSides_33 σ' ∧ σ'.1 25 0 17 = nI n' ∧ n' ≤ 2 ∧ fri PSd σ σ' := by
  intro s
  induction s with
  | zero =>
    intro t fuel σ n ht hf hM he hP hS hn
    obtain ⟨f, rfl⟩ : ∃ f, fuel = f + 1 := ⟨fuel - 1, by omega⟩
    have : t = 8 := by omega
    subst this
    have := c2f_8 k0 hk0
    rw [f_X8_findSides_11, if_pos (by decide)]
    exact ⟨σ, n, rfl, hS, by omega, fri.rf _ _⟩
  | succ s ih =>
    intro t fuel σ n ht hf hM he hP hS hn
    obtain ⟨f, rfl⟩ : ∃ f, fuel = f + 1 := ⟨fuel - 1, by omega⟩
    have h8 : t < 8 := by omega
    obtain ⟨g1, g2⟩ := n8 h8
    have c2 := c2f_t hk0 (show t ≤ 8 by omega)
    have hc : c2f k0 (t + 1) = c2f k0 t + (if ar t = k0 ∨ ar t = opp k0 then 1 else 0) := rfl
    rw [f_X8_findSides_11, if_neg (le8 h8), chk_p g1, g2, (hM t h8).2.2]
    have go : ∀ σ1 n1, fri PSd σ σ1 → σ1.1 25 0 17 = nI n1 → n1 ≤ c2f k0 (t + 1) → ∃ σ' n', f_X8_findSides_11 f (nI (t + 1)) σ1 = f_X8_findSides_33 σ' ∧ σ'.1 25 0 17 = nI n' ∧ n' ≤ 2 ∧ fri PSd σ σ' := by
      intro σ1 n1 f1 h1 h2
      obtain ⟨σ', n', q1, q2, q3, q4⟩ := ih (t + 1) f σ1 n1 (by omega) (by omega) (hM.fr f1 (by intro r k _ _; unfold PSd PRw; omega)) (he.fr f1 (by intro k; unfold PSd PRw; omega)) (hP.fr f1 (by intro r k hrk; unfold PSd PRw; omega)) h1 h2
      exact ⟨σ', n', q1, q2, q3, fri.tr f1 q4⟩
    by_cases q : ar t = k0 ∨ ar t = opp k0
    · rw [if_pos q] at hc
      obtain ⟨σ1, a1, a2⟩ := side_any hM he hP hA.1 hA.2.1 (ar_lt t h8) hS (by omega)
      rw [a1, cal_some, lt_eq, nI_1]
      rcases a2 with rfl | ⟨P, Q, rfl⟩
      · exact go _ n (fri.rf _ _) hS (by omega)
      · exact go _ (n + 1) (pushS_fr _ _ _ _ _) (by unfold pushS; simp only [up_rd, and_self, if_true]) (by omega)
    · rw [if_neg q] at hc
      have a1 := (p_findSide hM he hP hA.1 hA.2.1 (ar_lt t h8) hS).1 (fun u v hu hv ou ov => line_pt k0 hk0 _ (ar_lt t h8) (fun z => q (Or.inl z)) (fun z => q (Or.inr z)) (ou.trans ov.symm) ((h0 u hu).trans (h0 v hv).symm))
      rw [a1, cal_some, lt_eq, nI_1]
      exact go σ n (fri.rf _ _) hS (by omega)
theorem p_findSides_deg {σ : SS} {e : Nat → Int} (hM : MTb σ) (he : EB σ e) {k0 : Nat} (hk0 : k0 < 8) {c0 : Int} (h0 : ∀ x y, letz e x y → mz k0 x y = c0) : ∃ σ' n, f_X8_findSides σ = some ((), σ') ∧ σ'.1 25 0 17 = nI n ∧ n ≤ 2 ∧ fri PG σ σ' := by
  obtain ⟨σ1, ps, q1, q2, q3, q4⟩ := p_findPoints hM he
  have f1 : fri PG σ σ1 := q4.mono (fun _ _ _ => PP_G)
  have f2 : fri PSd σ1 (up σ1 25 0 17 0) := fri.up (fri.rf _ _) (by unfold PSd; omega)
  have z0 : (up σ1 25 0 17 0).1 25 0 17 = nI 0 := by simp only [up_rd, and_self, if_true]; rfl
  have hM1 : MTb σ1 := hM.fr q4 (by intro r k _ _; unfold PP; omega)
  have he1 : EB σ1 e := he.fr q4 (by intro k; unfold PP; omega)
  rw [sides_un, q1, cal_some]
  generalize up σ1 25 0 17 0 = σ2 at f2 z0
  have hP2 : PTS σ2 ps := q2.fr f2 (by intro r k hrk; unfold PSd PRw; omega)
  obtain ⟨σ3, n, r1, r2, r3, r4⟩ := deg_loop q3 hk0 (fun q hq => h0 _ _ (q3.2.2.1 q hq)) 8 0 FU σ2 0 rfl (by show 8 < 5000; omega) (hM1.fr f2 (by intro r k _ _; unfold PSd PRw; omega)) (he1.fr f2 (by intro k; unfold PSd PRw; omega)) hP2 z0 (Nat.le_refl _)
  obtain ⟨σ4, m, t1, -, -, -, t5⟩ := p_rows (n := n) (by omega) r2
  rw [r1]
  exact ⟨σ4, n, t1, by rw [t5.1 25 0 17 (by unfold PRw; omega)]; exact r2, r3, f1.tr ((f2.mono (fun _ _ _ => PSd_G)).tr ((r4.mono (fun _ _ _ => PSd_G)).tr (t5.mono (fun _ _ _ => PRw_G))))⟩
theorem mov_loop {a b : Nat} (ha : a < 60) (hb : b < 60) {E1 E2 : Nat → Int} (b1 : ∀ k, k < 8 → -10000 ≤ E1 k ∧ E1 k ≤ 10000) (b2 : ∀ k, k < 8 → -10000 ≤ E2 k ∧ E2 k ≤ 10000) : ∀ (s t fuel : Nat) (σ : SS), t + s = 8 → s < fuel → BD σ a E1 → BD σ b E2 → (∀ k, k < t → σ.1 53 0 k = iz (min (E1 k) (E2 k))) → ∃ σ', f_X8_overlaps_2 fuel (nI a) (nI b) (nI t) σ = f_X8_overlaps_60 σ' ∧ (∀ k, k < 8 → σ'.1 53 0 k = iz (min (E1 k) (E2 k))) ∧ fri P53 σ σ' := by
  intro s
  induction s with
  | zero =>
    intro t fuel σ ht hf h1 h2 h3
    obtain ⟨f, rfl⟩ : ∃ f, fuel = f + 1 := ⟨fuel - 1, by omega⟩
    have : t = 8 := by omega
    subst this
    rw [f_X8_overlaps_2, if_pos (by decide)]
    exact ⟨σ, rfl, h3, fri.rf _ _⟩
  | succ s ih =>
    intro t fuel σ ht hf h1 h2 h3
    obtain ⟨f, rfl⟩ : ∃ f, fuel = f + 1 := ⟨fuel - 1, by omega⟩
    have h8 : t < 8 := by omega
    obtain ⟨n1, n2, n3⟩ := n480 ha h8
    obtain ⟨m1, m2, m3⟩ := n480 hb h8
    obtain ⟨g1, g2⟩ := n8 h8
    have c1 := b1 t h8
    have c2 := b2 t h8
    have hc : iz (E2 t) ≤ iz (E1 t) ↔ E2 t ≤ E1 t := iz_le ⟨by omega, by omega⟩ ⟨by omega, by omega⟩
    have f1 : fri P53 σ (up σ 53 0 t (iz (min (E1 t) (E2 t)))) := fri.up (fri.rf _ _) rfl
    have e53 : ∀ v, f_X8_overlaps_53 (f_X8_overlaps_2 f) (nI a) (nI b) (nI t) (nI t) v σ = f_X8_overlaps_2 f (nI a) (nI b) (nI (t + 1)) (up σ 53 0 t v) := by
      intro v
      rw [f_X8_overlaps_53, chk_p g1, g2, lt_eq, lt_eq, nI_1]
    have e : f_X8_overlaps_2 (f + 1) (nI a) (nI b) (nI t) σ = f_X8_overlaps_2 f (nI a) (nI b) (nI (t + 1)) (up σ 53 0 t (iz (min (E1 t) (E2 t)))) := by
      rw [f_X8_overlaps_2, if_neg (le8 h8), n1, m1, chk_p n2, lt_eq, chk_p m2, n3, m3, h1 t h8, h2 t h8, lt_eq]
      by_cases q : E2 t ≤ E1 t
      · rw [if_pos (hc.mpr q), e53, Int.min_eq_right q]
      · rw [if_neg (fun z => q (hc.mp z)), e53, Int.min_eq_left (by omega)]
    rw [e]
    obtain ⟨σ', q1, q2, q3⟩ := ih (t + 1) f (up σ 53 0 t (iz (min (E1 t) (E2 t)))) (by omega) (by omega) (fun k hk => by rw [f1.1 48 0 _ (by unfold P53; omega)]; exact h1 k hk) (fun k hk => by rw [f1.1 48 0 _ (by unfold P53; omega)]; exact h2 k hk) (fun k hk => by
      by_cases q : k = t
      · rw [q]
        simp only [up_rd, and_self, if_true]
      · rw [up_rd, if_neg (by omega)]
        exact h3 k (by omega))
    exact ⟨σ', q1, q2, f1.tr q3⟩
theorem crs_b {T : Nat → Int} (h : ∀ k, k < 8 → (-8000 ≤ vx T k ∧ vx T k ≤ 8000) ∧ (-8000 ≤ vy T k ∧ vy T k ≤ 8000)) {k : Nat} (hk : k < 8) : -128000000 ≤ crs T k ∧ crs T k ≤ 128000000 := by
  have a := h k hk
  have b := h _ (nxt_lt k hk)
  have p := mul_b (A := 8000) (B := 8000) a.1 b.2
  have q := mul_b (A := 8000) (B := 8000) a.2 b.1
  unfold crs
  omega
theorem area_b {e T : Nat → Int} (hF : Fit e T) (hT : ∀ k, k < 8 → T k ≤ 8000) : -1024000000 ≤ area8 T ∧ area8 T ≤ 1024000000 := by
  have hv : ∀ k, k < 8 → (-8000 ≤ vx T k ∧ vx T k ≤ 8000) ∧ (-8000 ≤ vy T k ∧ vy T k ≤ 8000) := by
    intro k hk
    have v := fit_v hF k hk
    have x0 := v 0 (by decide)
    have x4 := v 4 (by decide)
    have y1 := v 1 (by decide)
    have y5 := v 5 (by decide)
    have t0 := hT 0 (by decide)
    have t1 := hT 1 (by decide)
    have t4 := hT 4 (by decide)
    have t5 := hT 5 (by decide)
    simp only [mz] at x0 x4 y1 y5
    omega
  have c0 := crs_b hv (k := 0) (by decide)
  have c1 := crs_b hv (k := 1) (by decide)
  have c2 := crs_b hv (k := 2) (by decide)
  have c3 := crs_b hv (k := 3) (by decide)
  have c4 := crs_b hv (k := 4) (by decide)
  have c5 := crs_b hv (k := 5) (by decide)
  have c6 := crs_b hv (k := 6) (by decide)
  have c7 := crs_b hv (k := 7) (by decide)
  unfold area8
  omega
theorem ez_b {R : Nat → Int} (hG : Good R) (hR : ∀ k, k < 8 → R k ≤ 8000) : ∀ k, k < 8 → -4000 ≤ Ez R k ∧ Ez R k ≤ 4000 := by
  have a := of8 hR
  have w := hG.2.1
  unfold Ez
  apply all8 <;> omega
theorem p_mov {σ : SS} (hM : MTb σ) {a b : Nat} (ha : a < 60) (hb : b < 60) {A B : Nat → Int} (gA : Good A) (gB : Good B) (sA : ∀ k, k < 8 → A k ≤ 8000) (sB : ∀ k, k < 8 → B k ≤ 8000) (bA : BD σ a (Ez A)) (bB : BD σ b (Ez B)) : (Ovl A B → ∃ σ', f_X8_overlaps (nI a) (nI b) σ = some (1, σ') ∧ fri PT σ σ') ∧ (¬ Ovl A B → ∃ σ', f_X8_overlaps (nI a) (nI b) σ = some (0, σ') ∧ fri PT σ σ') := by
  have e1 := ez_b gA sA
  have e2 := ez_b gB sB
  obtain ⟨σ1, q1, q2, q3⟩ := mov_loop ha hb (fun k hk => ⟨by have := e1 k hk; omega, by have := e1 k hk; omega⟩) (fun k hk => ⟨by have := e2 k hk; omega, by have := e2 k hk; omega⟩) 8 0 FU σ rfl (by show 8 < 5000; omega) bA bB (fun k hk => absurd hk (Nat.not_lt_zero _))
  have hM1 : MTb σ1 := hM.fr q3 (by intro r k _ _; unfold P53; omega)
  have he1 : EB σ1 (fun k => min (Ez A k) (Ez B k)) := fun k hk => ⟨q2 k hk, by have := e1 k hk; have := e2 k hk; simp only; omega, by have := e1 k hk; simp only; omega⟩
  have f1 : fri PT σ σ1 := q3.mono (fun _ _ _ h => Or.inl h)
  have e0 : f_X8_overlaps (nI a) (nI b) σ = f_X8_overlaps_60 σ1 := by
    rw [f_X8_overlaps, ← nI_0]
    exact q1
  rw [e0, f_X8_overlaps_60]
  constructor
  · intro ho
    obtain ⟨T, hF⟩ := ovl_fit gA gB ho
    obtain ⟨σ2, ps, r1, r2, r3, r4, r5⟩ := p_findSides hF hM1 he1
    have h3 := fit_len hF
    have h8 := pl_len T
    have hT : ∀ k, k < 8 → T k ≤ 8000 := fun k hk => by
      have := hF.2.2.1 k hk
      have := e1 k hk
      simp only at *
      omega
    have ab := area_b hF hT
    have ap := area_pos hF
    have hc : iz (area8 T) ≤ 0 ↔ area8 T ≤ 0 := iz_le (b := 0) ⟨by omega, by omega⟩ ⟨by decide, by decide⟩
    refine ⟨σ2, ?_, f1.tr (r5.mono (fun _ _ _ h => Or.inr h))⟩
    rw [r1, cal_some, r2.1, if_neg (show ¬ nI (pl T).length ≤ (2 : Int32) from nI_ge (a := 2) (by omega) (by omega)), p_areaNow r2, cal_some, if_neg (fun z => by have := hc.mp z; omega)]
  · intro ho
    have hex : ∃ k0, k0 < 8 ∧ A k0 + B (opp k0) ≤ 0 := by
      refine Classical.byContradiction (fun hne => ho (fun k hk => ?_))
      refine Classical.byContradiction (fun h2 => hne ⟨k, hk, by omega⟩)
    obtain ⟨k0, hk0, hk1⟩ := hex
    obtain ⟨σ2, n, r1, r2, r3, r4⟩ := p_findSides_deg hM1 he1 hk0 (c0 := A k0) (fun x y hl => by
      have lA : letz (Ez A) x y := fun k hk => by have := hl k hk; simp only at this; omega
      have lB : letz (Ez B) x y := fun k hk => by have := hl k hk; simp only at this; omega
      have a1 := (let_T gA).mp lA k0 hk0
      have a2 := (let_T gB).mp lB (opp k0) (opp_lt k0 hk0)
      rw [mz_opp _ _ k0 hk0] at a2
      omega)
    refine ⟨σ2, ?_, f1.tr (r4.mono (fun _ _ _ h => Or.inr h))⟩
    rw [r1, cal_some, r2, if_pos (show nI n ≤ (2 : Int32) from nI_le (b := 2) r3 (by decide))]
/-- inside: 0 if one is beyond, 1 if one is at its bound, else 2 -/
def plm (b : Nat → Int) (x y : Int) (t : Nat) (v : Int32) (w : Int32) : Prop := ((∃ k, t ≤ k ∧ k < 8 ∧ b k < mz k x y) ∧ w = 0) ∨ ((∀ k, t ≤ k → k < 8 → mz k x y ≤ b k) ∧ ((v = 2 ∧ (∃ k, t ≤ k ∧ k < 8 ∧ mz k x y = b k) ∧ w = 1) ∨ (v = 2 ∧ (∀ k, t ≤ k → k < 8 → mz k x y < b k) ∧ w = 2) ∨ (v ≠ 2 ∧ w = v)))
theorem inside_loop {σ : SS} (hM : MTb σ) {p : Nat} (hp : p < 60) {E : Nat → Int} (hB : BD σ p E) (hE : ∀ k, k < 8 → -10000 ≤ E k ∧ E k ≤ 10000) {x y : Int} (hb : pb x y) : ∀ (s t fuel : Nat) (v : Int32), t + s = 8 → s < fuel → (v = 0 ∨ v = 1 ∨ v = 2) → ∃ w, f_X8_inside_44 fuel (nI p) (iz x) (iz y) v (nI t) σ = some (w, σ) ∧ plm (fun k => 2 * E k) x y t v w := by
  intro s
  induction s with
  | zero =>
    intro t fuel v ht hf hv
    obtain ⟨f, rfl⟩ : ∃ f, fuel = f + 1 := ⟨fuel - 1, by omega⟩
    have : t = 8 := by omega
    subst this
    rw [f_X8_inside_44, if_pos (by decide)]
    refine ⟨v, rfl, Or.inr ⟨fun k _ _ => by omega, ?_⟩⟩
    by_cases q : v = 2
    · exact Or.inr (Or.inl ⟨q, fun k _ _ => by omega, q⟩)
    · exact Or.inr (Or.inr ⟨q, rfl⟩)
  | succ s ih =>
    intro t fuel v ht hf hv
    obtain ⟨f, rfl⟩ : ∃ f, fuel = f + 1 := ⟨fuel - 1, by omega⟩
    have h8 : t < 8 := by omega
    obtain ⟨g1, g2⟩ := n8 h8
    obtain ⟨n1, n2, n3⟩ := n480 hp h8
    have mb := mz_b hb t h8
    have sb := hE t h8
    have c1 : iz (mz t x y - 2 * E t) ≤ 0 ↔ mz t x y - 2 * E t ≤ 0 := iz_le (b := 0) ⟨by omega, by omega⟩ ⟨by decide, by decide⟩
    have c2 : iz (mz t x y - 2 * E t) = 0 ↔ mz t x y - 2 * E t = 0 := iz_eq (b := 0) ⟨by omega, by omega⟩ ⟨by decide, by decide⟩
    rw [f_X8_inside_44, if_neg (le8 h8), chk_p g1, chk_p g1, n1, chk_p n2, n3, g2, hB t h8, mc_m hM h8, iz2, iz_mul, iz_sub, lt_eq]
    have e113 : ∀ u, f_X8_inside_113 (f_X8_inside_44 f) (nI p) (iz x) (iz y) (nI t) u σ = f_X8_inside_44 f (nI p) (iz x) (iz y) u (nI (t + 1)) σ := by
      intro u
      rw [f_X8_inside_113, lt_eq, nI_1]
    by_cases q : mz t x y - 2 * E t ≤ 0
    · rw [if_pos (c1.mpr q)]
      have keep : (mz t x y - 2 * E t = 0 → v ≠ 2) → ∃ w, f_X8_inside_111 (f_X8_inside_44 f) (nI p) (iz x) (iz y) v (nI t) σ = some (w, σ) ∧ plm (fun k => 2 * E k) x y t v w := by
        intro hne
        obtain ⟨w, h1, h2⟩ := ih (t + 1) f v (by omega) (by omega) hv
        refine ⟨w, by rw [f_X8_inside_111, e113]; exact h1, ?_⟩
        rcases h2 with ⟨⟨k, k1, k2, k3⟩, h3⟩ | ⟨h3, h4⟩
        · exact Or.inl ⟨⟨k, by omega, k2, k3⟩, h3⟩
        · refine Or.inr ⟨fun k k1 k2 => ?_, ?_⟩
          · by_cases qq : k = t
            · rw [qq]; simp only; omega
            · exact h3 k (by omega) k2
          · rcases h4 with ⟨h5, ⟨k, k1, k2, k3⟩, h6⟩ | ⟨h5, h6, h7⟩ | h5
            · exact Or.inl ⟨h5, ⟨k, by omega, k2, k3⟩, h6⟩
            · refine Or.inr (Or.inl ⟨h5, fun k k1 k2 => ?_, h7⟩)
              by_cases qq : k = t
              · rw [qq]
                have : ¬ mz t x y - 2 * E t = 0 := fun z => hne z h5
                simp only
                omega
              · exact h6 k (by omega) k2
            · exact Or.inr (Or.inr h5)
      by_cases q2 : mz t x y - 2 * E t = 0
      · rw [if_pos (c2.mpr q2)]
        by_cases q3 : v = iz 2
        · rw [if_pos q3, e113]
          obtain ⟨w, h1, h2⟩ := ih (t + 1) f 1 (by omega) (by omega) (Or.inr (Or.inl rfl))
          refine ⟨w, h1, ?_⟩
          rcases h2 with ⟨⟨k, k1, k2, k3⟩, h3⟩ | ⟨h3, h4⟩
          · exact Or.inl ⟨⟨k, by omega, k2, k3⟩, h3⟩
          · refine Or.inr ⟨fun k k1 k2 => ?_, Or.inl ⟨q3, ⟨t, Nat.le_refl _, h8, by simp only; omega⟩, ?_⟩⟩
            · by_cases qq : k = t
              · rw [qq]; simp only; omega
              · exact h3 k (by omega) k2
            · rcases h4 with ⟨h5, -⟩ | ⟨h5, -⟩ | ⟨-, h5⟩
              · exact absurd h5 (by decide)
              · exact absurd h5 (by decide)
              · exact h5
        · rw [if_neg q3]
          exact keep (fun _ => q3)
      · rw [if_neg (fun z => q2 (c2.mp z))]
        exact keep (fun z => absurd z q2)
    · rw [if_neg (fun z => q (c1.mp z)), e113]
      obtain ⟨w, h1, h2⟩ := ih (t + 1) f 0 (by omega) (by omega) (Or.inl rfl)
      refine ⟨w, h1, Or.inl ⟨⟨t, Nat.le_refl _, h8, by simp only; omega⟩, ?_⟩⟩
      rcases h2 with ⟨-, h3⟩ | ⟨-, h4⟩
      · exact h3
      · rcases h4 with ⟨h5, -⟩ | ⟨h5, -⟩ | ⟨-, h5⟩
        · exact absurd h5 (by decide)
        · exact absurd h5 (by decide)
        · exact h5
/-- both say the same -/
theorem in_same {R : Nat → Int} (hG : Good R) {x y : Int} {w w' : Int32} (h : plc R x y 0 2 w) (h' : plm (fun k => 2 * Ez R k) x y 0 2 w') : w = w' := by
  have ev := fit_even hG
  have lt := let_T hG (x := x) (y := y)
  have tight : (∀ k, k < 8 → mz k x y ≤ R k) → ∀ k, k < 8 → mz k x y = R k → ∃ l, l < 8 ∧ mz l x y = 2 * Ez R l := by
    intro hl
    have d := of8 hG.2.2.2
    have l := of8 hl
    simp only [ld, mz] at d l
    obtain ⟨d0, d1, d2, d3, d4, d5, d6, d7⟩ := d
    obtain ⟨l0, l1, l2, l3, l4, l5, l6, l7⟩ := l
    have z2 : 2 * Ez R 2 = R 2 := by unfold Ez; omega
    have z3 : 2 * Ez R 3 = R 3 := by unfold Ez; omega
    have z6 : 2 * Ez R 6 = R 6 := by unfold Ez; omega
    have z7 : 2 * Ez R 7 = R 7 := by unfold Ez; omega
    apply all8 <;> intro hk <;> simp only [mz] at hk
    · rcases d0 with q | q
      · exact ⟨0, by decide, by simp only [mz]; omega⟩
      · exact ⟨2, by decide, by simp only [mz]; omega⟩
    · rcases d1 with q | q
      · exact ⟨1, by decide, by simp only [mz]; omega⟩
      · exact ⟨2, by decide, by simp only [mz]; omega⟩
    · exact ⟨2, by decide, by simp only [mz]; omega⟩
    · exact ⟨3, by decide, by simp only [mz]; omega⟩
    · rcases d4 with q | q
      · exact ⟨4, by decide, by simp only [mz]; omega⟩
      · exact ⟨6, by decide, by simp only [mz]; omega⟩
    · rcases d5 with q | q
      · exact ⟨5, by decide, by simp only [mz]; omega⟩
      · exact ⟨6, by decide, by simp only [mz]; omega⟩
    · exact ⟨6, by decide, by simp only [mz]; omega⟩
    · exact ⟨7, by decide, by simp only [mz]; omega⟩
  have le2 : ∀ k, k < 8 → R k ≤ 2 * Ez R k := hG.2.2.1
  rcases h with ⟨⟨k, -, k2, k3⟩, h1⟩ | ⟨h1, h2⟩
  · rcases h' with ⟨-, h3⟩ | ⟨h3, -⟩
    · rw [h1, h3]
    · have := lt.mp (fun k hk => h3 k (Nat.zero_le _) hk) k k2
      omega
  · have hl : ∀ k, k < 8 → mz k x y ≤ R k := fun k hk => h1 k (Nat.zero_le _) hk
    rcases h' with ⟨⟨k, -, k2, k3⟩, h3⟩ | ⟨h3, h4⟩
    · have := hl k k2
      have := le2 k k2
      simp only at k3
      omega
    · rcases h2 with ⟨⟨k, -, k2, k3⟩, h5⟩ | ⟨h5, h6⟩
      · rcases h4 with ⟨-, -, h7⟩ | ⟨-, h7, -⟩ | ⟨h7, -⟩
        · rw [h5, h7]
        · obtain ⟨l, l1, l2⟩ := tight hl k k2 k3
          have := h7 l (Nat.zero_le _) l1
          simp only at this
          omega
        · exact absurd rfl h7
      · rcases h4 with ⟨-, ⟨k, -, k2, k3⟩, -⟩ | ⟨-, -, h7⟩ | ⟨h7, -⟩
        · have := h5 k (Nat.zero_le _) k2
          have := le2 k k2
          simp only at k3
          omega
        · rw [h6, h7]
        · exact absurd rfl h7
