/-! ===== PURE: nearness, restsOn ===== -/
def PTw (r _i k : Nat) : Prop := r = 25 ∧ (k = 27 ∨ k = 28)
/-- what was found so far: nothing, or the one touch -/
def NI (σ : SS) (A B : Nat → Int) (P : Nat → Nat → Prop) : Prop := ((∀ i j, i < (pl A).length → j < (pl B).length → P i j → shz A B (fd A i) (fd B j) = 0) ∧ σ.1 25 0 28 = 0) ∨ ∃ k, k < 8 ∧ 0 < cmn A B k ∧ σ.1 25 0 28 = iz (cmn A B k) ∧ σ.1 25 0 27 = nI k
theorem shz_b {A B : Nat → Int} (mA : Sm A) (mB : Sm B) {k l : Nat} (hk : k < 8) (hl : l < 8) : shz A B k l ≤ 80000 := by
  obtain ⟨b1, b2⟩ := ends_b mA hk
  obtain ⟨b3, b4⟩ := ends_b mB hl
  unfold shz ovr
  split <;> omega
theorem near_in {A B : Nat → Int} (gA : Good A) (gB : Good B) (mA : Sm A) (mB : Sm B) (hn : ¬ Ovl A B) {i : Nat} (hi : i < (pl A).length) {K : Int32 → SS → Option (Int32 × SS)} : ∀ (s j fuel : Nat) (σ : SS), j + s = (pl B).length → s < fuel → MTb σ → OF σ A → SF σ B → NI σ A B (fun i' j' => i' < i ∨ (i' = i ∧ j' < j)) → ∃ σ', f_X8_nearness_43 K fuel (nI i) (nI j) σ = K (nI (i + 1)) σ' ∧ NI σ' A B (fun i' _ => i' < i + 1) ∧ fri PTw σ σ' := by
  have lA := pl_len A
  have lB := pl_len B
  intro s
  induction s with
  | zero =>
    intro j fuel σ hj hf hM hO hS hI
    obtain ⟨f, rfl⟩ : ∃ f, fuel = f + 1 := ⟨fuel - 1, by omega⟩
    rw [f_X8_nearness_43, hS.1, if_pos (nI_le (by omega) (by omega)), f_X8_nearness_88, lt_eq, nI_1]
    refine ⟨σ, rfl, ?_, fri.rf _ _⟩
    rcases hI with ⟨h1, h2⟩ | h1
    · exact Or.inl ⟨fun i' j' a b c => h1 i' j' a b (by omega), h2⟩
    · exact Or.inr h1
  | succ s ih =>
    intro j fuel σ hj hf hM hO hS hI
    obtain ⟨f, rfl⟩ : ∃ f, fuel = f + 1 := ⟨fuel - 1, by omega⟩
    have hjl : j < (pl B).length := by omega
    obtain ⟨g1, g2⟩ := n8 (show i < 8 by omega)
    have nn := shz_nn A B (fd A i) (fd B j)
    have nb := shz_b mA mB (fd_lt hi) (fd_lt hjl)
    have hc : iz (shz A B (fd A i) (fd B j)) ≤ 0 ↔ shz A B (fd A i) (fd B j) ≤ 0 := iz_le (b := 0) ⟨by omega, by omega⟩ ⟨by decide, by decide⟩
    have e82 : ∀ σ1, f_X8_nearness_82 K (f_X8_nearness_43 K f) (nI i) (nI j) σ1 = f_X8_nearness_43 K f (nI i) (nI (j + 1)) σ1 := by
      intro σ1
      rw [f_X8_nearness_82, lt_eq, nI_1]
    rw [f_X8_nearness_43, hS.1, if_neg (nI_ge hjl (by omega)), p_shared hM hO hS mA mB hi hjl, cal_some]
    by_cases q : shz A B (fd A i) (fd B j) ≤ 0
    · rw [if_pos (hc.mpr q), e82]
      refine ih (j + 1) f σ (by omega) (by omega) hM hO hS ?_
      rcases hI with ⟨h1, h2⟩ | h1
      · refine Or.inl ⟨fun i' j' a b c => ?_, h2⟩
        by_cases qq : i' = i ∧ j' = j
        · rw [qq.1, qq.2]; omega
        · exact h1 i' j' a b (by omega)
      · exact Or.inr h1
    · rw [if_neg (fun z => q (hc.mp z)), lt_eq, chk_p g1, lt_eq, g2, e82]
      obtain ⟨z1, z2, z3⟩ := shz_pos gA gB hn (fd_lt hi) (fd_lt hjl) (pl_in hi).2 (pl_in hjl).2 (by omega)
      have e70 : (up σ 25 0 28 (iz (shz A B (fd A i) (fd B j)))).1 70 0 i = nI (fd A i) := by
        rw [up_rd, if_neg (by omega)]
        exact (hO.2 i hi).1
      rw [e70]
      have f1 : fri PTw σ (up (up σ 25 0 28 (iz (shz A B (fd A i) (fd B j)))) 25 0 27 (nI (fd A i))) := by
        refine fri.up (fri.up (fri.rf _ _) ?_) ?_ <;> (unfold PTw; omega)
      obtain ⟨σ', q1, q2, q3⟩ := ih (j + 1) f (up (up σ 25 0 28 (iz (shz A B (fd A i) (fd B j)))) 25 0 27 (nI (fd A i))) (by omega) (by omega) (hM.fr f1 (by intro r k _ _; unfold PTw; omega)) (hO.fr f1 (by intro r k; unfold PO PTw; omega)) (hS.fr f1 (by intro r k; unfold PTw; omega)) (Or.inr ⟨fd A i, fd_lt hi, z2, by simp (config := { decide := true }) only [up_rd, and_self, if_true, and_false, if_false]; rw [z3], by simp (config := { decide := true }) only [up_rd, and_self, if_true]⟩)
      exact ⟨σ', q1, q2, f1.tr q3⟩
theorem near_out {A B : Nat → Int} (gA : Good A) (gB : Good B) (mA : Sm A) (mB : Sm B) (hn : ¬ Ovl A B) : ∀ (s i fuel : Nat) (σ : SS), i + s = (pl A).length → s < fuel → MTb σ → OF σ A → SF σ B → NI σ A B (fun i' _ => i' < i) → ∃ σ', f_X8_nearness_32 fuel (nI i) σ = f_X8_nearness_94 σ' ∧ NI σ' A B (fun _ _ => True) ∧ fri PTw σ σ' := by
  have lA := pl_len A
  have lB := pl_len B
  intro s
  induction s with
  | zero =>
    intro i fuel σ hi hf hM hO hS hI
    obtain ⟨f, rfl⟩ : ∃ f, fuel = f + 1 := ⟨fuel - 1, by omega⟩
    rw [f_X8_nearness_32, hO.1, if_pos (nI_le (by omega) (by omega))]
    refine ⟨σ, rfl, ?_, fri.rf _ _⟩
    rcases hI with ⟨h1, h2⟩ | h1
    · exact Or.inl ⟨fun i' j' a b _ => h1 i' j' a b (by omega), h2⟩
    · exact Or.inr h1
  | succ s ih =>
    intro i fuel σ hi hf hM hO hS hI
    obtain ⟨f, rfl⟩ : ∃ f, fuel = f + 1 := ⟨fuel - 1, by omega⟩
    rw [f_X8_nearness_32, hO.1, if_neg (nI_ge (by omega) (by omega))]
    obtain ⟨σ1, q1, q2, q3⟩ := near_in gA gB mA mB hn (show i < (pl A).length by omega) (K := f_X8_nearness_32 f) (pl B).length 0 FU σ (by omega) (by show (pl B).length < 5000; omega) hM hO hS (by
      rcases hI with ⟨h1, h2⟩ | h1
      · exact Or.inl ⟨fun i' j' a b c => h1 i' j' a b (by omega), h2⟩
      · exact Or.inr h1)
    obtain ⟨σ2, r1, r2, r3⟩ := ih (i + 1) f σ1 (by omega) (by omega) (hM.fr q3 (by intro r k _ _; unfold PTw; omega)) (hO.fr q3 (by intro r k; unfold PO PTw; omega)) (hS.fr q3 (by intro r k; unfold PTw; omega)) q2
    exact ⟨σ2, q1.trans r1, r2, q3.tr r3⟩
/-- what the model's look at two shapes changes -/
def PN (r i k : Nat) : Prop := PT r i k ∨ PO r i k ∨ PTw r i k
theorem good_sm {R : Nat → Int} (hG : Good R) (hR : ∀ k, k < 8 → R k ≤ 8000) : Sm R := by
  have a := of8 hR
  have w := hG.2.1
  unfold Sm
  apply all8 <;> omega
theorem PT_48 {k : Nat} : ¬ PT 48 0 k := by unfold PT PG; omega
theorem PT_m {r k : Nat} (h1 : 40 ≤ r) (h2 : r < 43) : ¬ PT r 0 k := by unfold PT PG; omega
theorem BD.fr {P : Nat → Nat → Nat → Prop} {σ τ : SS} {p : Nat} {E : Nat → Int} (h : BD σ p E) (f : fri P σ τ) (hp : ∀ k, ¬ P 48 0 k) : BD τ p E := fun k hk => by
  rw [f.1 48 0 _ (hp _)]
  exact h k hk
theorem p_nearness {σ : SS} (hM : MTb σ) {a b : Nat} (ha : a < 60) (hb : b < 60) {A B : Nat → Int} (gA : Good A) (gB : Good B) (sA : ∀ k, k < 8 → A k ≤ 8000) (sB : ∀ k, k < 8 → B k ≤ 8000) (bA : BD σ a (Ez A)) (bB : BD σ b (Ez B)) : ∃ v σ', f_X8_nearness (nI a) (nI b) σ = some (v, σ') ∧ fri PN σ σ' ∧ ((Ovl A B ∧ v = 2) ∨ (¬ Ovl A B ∧ (∀ k, k < 8 → cmn A B k = 0) ∧ v = 0) ∨ (¬ Ovl A B ∧ ∃ k, k < 8 ∧ 0 < cmn A B k ∧ v = 1 ∧ σ'.1 25 0 27 = nI k ∧ σ'.1 25 0 28 = iz (cmn A B k))) := by
  have mA := good_sm gA sA
  have mB := good_sm gB sB
  have eA : ∀ k, k < 8 → -10000 ≤ Ez A k ∧ Ez A k ≤ 10000 := fun k hk => by have := ez_b gA sA k hk; omega
  have eB : ∀ k, k < 8 → -10000 ≤ Ez B k ∧ Ez B k ≤ 10000 := fun k hk => by have := ez_b gB sB k hk; omega
  obtain ⟨o1, o2⟩ := p_mov hM ha hb gA gB sA sB bA bB
  by_cases q : Ovl A B
  · obtain ⟨σ1, r1, r2⟩ := o1 q
    refine ⟨2, σ1, ?_, r2.mono (fun _ _ _ h => Or.inl h), Or.inl ⟨q, rfl⟩⟩
    rw [f_X8_nearness, r1, cal_some, if_neg (by decide)]
  · obtain ⟨σ1, r1, r2⟩ := o2 q
    have hM1 : MTb σ1 := hM.fr r2 (fun r k h1 h2 => PT_m h1 h2)
    obtain ⟨σ2, ps, t1, t2, -, -, -, t6⟩ := p_takes gA hM1 ha (bA.fr r2 (fun k => PT_48)) eA
    have hM2 : MTb σ2 := hM1.fr t6 (fun r k h1 h2 => PT_m h1 h2)
    obtain ⟨σ3, u1, u2, u3⟩ := p_keepsSides t2
    have hM3 : MTb σ3 := hM2.fr u3 (by intro r k _ _; unfold PO; omega)
    have bB3 : BD σ3 b (Ez B) := ((bB.fr r2 (fun k => PT_48)).fr t6 (fun k => PT_48)).fr u3 (by intro k; unfold PO; omega)
    obtain ⟨σ4, ps', w1, w2, -, -, -, w6⟩ := p_takes gB hM3 hb bB3 eB
    have hM4 : MTb σ4 := hM3.fr w6 (fun r k h1 h2 => PT_m h1 h2)
    have O4 : OF σ4 A := u2.fr w6 (by intro r k; unfold PO PT PG; omega)
    have f5 : fri PTw σ4 (up σ4 25 0 28 0) := fri.up (fri.rf _ _) (by unfold PTw; omega)
    have z0 : (up σ4 25 0 28 0).1 25 0 28 = 0 := by simp only [up_rd, and_self, if_true]
    have lA := pl_len A
    have hF04 : fri PN σ σ4 := (r2.mono (fun _ _ _ h => Or.inl h)).tr ((t6.mono (fun _ _ _ h => Or.inl h)).tr ((u3.mono (fun _ _ _ h => Or.inr (Or.inl h))).tr (w6.mono (fun _ _ _ h => Or.inl h))))
    rw [f_X8_nearness, r1, cal_some, if_pos rfl, t1, cal_some, u1, cal_some, w1, cal_some, lt_eq]
    generalize up σ4 25 0 28 0 = σ5 at f5 z0
    obtain ⟨σ6, x1, x2, x3⟩ := near_out gA gB mA mB q (pl A).length 0 FU σ5 (by omega) (by show (pl A).length < 5000; omega) (hM4.fr f5 (by intro r k _ _; unfold PTw; omega)) (O4.fr f5 (by intro r k; unfold PO PTw; omega)) (w2.fr f5 (by intro r k; unfold PTw; omega)) (Or.inl ⟨fun i' j' _ _ c => absurd c (Nat.not_lt_zero _), z0⟩)
    have fF : fri PN σ σ6 := hF04.tr ((f5.mono (fun _ _ _ h => Or.inr (Or.inr h))).tr (x3.mono (fun _ _ _ h => Or.inr (Or.inr h))))
    rw [nI_0] at x1
    rw [x1, f_X8_nearness_94]
    rcases x2 with ⟨y1, y2⟩ | ⟨k, y1, y2, y3, y4⟩
    · refine ⟨0, σ6, by rw [y2, if_pos (by decide)], fF, Or.inr (Or.inl ⟨q, fun k hk => ?_, rfl⟩)⟩
      refine Classical.byContradiction (fun hne => ?_)
      have nn := cmn_nn A B k
      have hp : 0 < cmn A B k := by omega
      obtain ⟨p1, p2, -, -⟩ := cmn_pos hp
      obtain ⟨i, i1, i2⟩ := pl_on hk p1
      obtain ⟨j, j1, j2⟩ := pl_on (opp_lt k hk) p2
      have := y1 i j i1 j1 trivial
      rw [i2, j2, shz_of hk hp] at this
      omega
    · have cb := cmn_b mA mB y1
      have hc : iz (cmn A B k) ≤ 0 ↔ cmn A B k ≤ 0 := iz_le (b := 0) ⟨by omega, by omega⟩ ⟨by decide, by decide⟩
      exact ⟨1, σ6, by rw [y3, if_neg (fun z => by have := hc.mp z; omega)], fF, Or.inr (Or.inr ⟨q, k, y1, y2, rfl, y4, y3⟩)⟩
/-! restsOn: a side of direction 5 on one of direction 1 -/
theorem ron_in {A B : Nat → Int} (mA : Sm A) (mB : Sm B) {i : Nat} (hi : i < (pl A).length) {K : Int32 → SS → Option (Int32 × SS)} {σ : SS} (hM : MTb σ) (hO : OF σ A) (hS : SF σ B) : ∀ (s j fuel : Nat), j + s = (pl B).length → s < fuel → ((∃ j', j ≤ j' ∧ j' < (pl B).length ∧ fd A i = 5 ∧ fd B j' = 1 ∧ 0 < shz A B 5 1) → f_X8_restsOn_27 K fuel (nI i) (nI j) σ = some (1, σ)) ∧ (¬ (∃ j', j ≤ j' ∧ j' < (pl B).length ∧ fd A i = 5 ∧ fd B j' = 1 ∧ 0 < shz A B 5 1) → f_X8_restsOn_27 K fuel (nI i) (nI j) σ = K (nI (i + 1)) σ) := by
  have lA := pl_len A
  have lB := pl_len B
  obtain ⟨g1, g2⟩ := n8 (show i < 8 by omega)
  have dA := fd_lt hi
  have o0 := (hO.2 i hi).1
  have c5 : nI (fd A i) = (5 : Int32) ↔ fd A i = 5 := nI_eq (b := 5) (by omega) (by decide)
  intro s
  induction s with
  | zero =>
    intro j fuel hj hf
    obtain ⟨f, rfl⟩ : ∃ f, fuel = f + 1 := ⟨fuel - 1, by omega⟩
    rw [f_X8_restsOn_27, hS.1, if_pos (nI_le (by omega) (by omega)), f_X8_restsOn_75, lt_eq, nI_1]
    exact ⟨fun ⟨j', h1, h2, _⟩ => by omega, fun _ => rfl⟩
  | succ s ih =>
    intro j fuel hj hf
    obtain ⟨f, rfl⟩ : ∃ f, fuel = f + 1 := ⟨fuel - 1, by omega⟩
    have hjl : j < (pl B).length := by omega
    obtain ⟨g3, g4⟩ := n8 (show j < 8 by omega)
    have dB := fd_lt hjl
    have s0 := (hS.2 j hjl).1
    have c1 : nI (fd B j) = (1 : Int32) ↔ fd B j = 1 := nI_eq (b := 1) (by omega) (by decide)
    obtain ⟨i1, i2⟩ := ih (j + 1) f (by omega) (by omega)
    have e69 : f_X8_restsOn_69 K (f_X8_restsOn_27 K f) (nI i) (nI j) σ = f_X8_restsOn_27 K f (nI i) (nI (j + 1)) σ := by
      rw [f_X8_restsOn_69, lt_eq, nI_1]
    have nn := shz_nn A B (fd A i) (fd B j)
    have nb := shz_b mA mB dA dB
    have hc : iz (shz A B (fd A i) (fd B j)) ≤ 0 ↔ shz A B (fd A i) (fd B j) ≤ 0 := iz_le (b := 0) ⟨by omega, by omega⟩ ⟨by decide, by decide⟩
    have skip : ¬ (fd A i = 5 ∧ fd B j = 1 ∧ 0 < shz A B 5 1) → ((∃ j', j ≤ j' ∧ j' < (pl B).length ∧ fd A i = 5 ∧ fd B j' = 1 ∧ 0 < shz A B 5 1) → f_X8_restsOn_27 K f (nI i) (nI (j + 1)) σ = some (1, σ)) ∧ (¬ (∃ j', j ≤ j' ∧ j' < (pl B).length ∧ fd A i = 5 ∧ fd B j' = 1 ∧ 0 < shz A B 5 1) → f_X8_restsOn_27 K f (nI i) (nI (j + 1)) σ = K (nI (i + 1)) σ) := by
      intro hno
      refine ⟨fun ⟨j', h1, h2, h3, h4, h5⟩ => i1 ⟨j', ?_, h2, h3, h4, h5⟩, fun h => i2 (fun ⟨j', h1, h2, h3⟩ => h ⟨j', by omega, h2, h3⟩)⟩
      rcases Nat.eq_or_lt_of_le h1 with z | z
      · exact absurd ⟨h3, by rw [z]; exact h4, h5⟩ hno
      · exact z
    rw [f_X8_restsOn_27, hS.1, if_neg (nI_ge hjl (by omega)), chk_p g1, g2, o0]
    by_cases q5 : fd A i = 5
    · rw [if_pos (c5.mpr q5), chk_p g3, g4, s0]
      by_cases q1 : fd B j = 1
      · rw [if_pos (c1.mpr q1), p_shared hM hO hS mA mB hi hjl, cal_some]
        by_cases q : shz A B (fd A i) (fd B j) ≤ 0
        · rw [if_pos (hc.mpr q), e69]
          rw [q5, q1] at q
          exact skip (fun z => by omega)
        · rw [if_neg (fun z => q (hc.mp z))]
          rw [q5, q1] at q
          exact ⟨fun _ => rfl, fun h => absurd ⟨j, Nat.le_refl _, hjl, q5, q1, by omega⟩ h⟩
      · rw [if_neg (fun z => q1 (c1.mp z)), e69]
        exact skip (fun z => q1 z.2.1)
    · rw [if_neg (fun z => q5 (c5.mp z)), e69]
      exact skip (fun z => q5 z.1)
theorem ron_out {A B : Nat → Int} (mA : Sm A) (mB : Sm B) {σ : SS} (hM : MTb σ) (hO : OF σ A) (hS : SF σ B) : ∀ (s i fuel : Nat), i + s = (pl A).length → s < fuel → ((∃ i' j', i ≤ i' ∧ i' < (pl A).length ∧ j' < (pl B).length ∧ fd A i' = 5 ∧ fd B j' = 1 ∧ 0 < shz A B 5 1) → f_X8_restsOn_16 fuel (nI i) σ = some (1, σ)) ∧ (¬ (∃ i' j', i ≤ i' ∧ i' < (pl A).length ∧ j' < (pl B).length ∧ fd A i' = 5 ∧ fd B j' = 1 ∧ 0 < shz A B 5 1) → f_X8_restsOn_16 fuel (nI i) σ = some (0, σ)) := by
  have lA := pl_len A
  have lB := pl_len B
  intro s
  induction s with
  | zero =>
    intro i fuel hi hf
    obtain ⟨f, rfl⟩ : ∃ f, fuel = f + 1 := ⟨fuel - 1, by omega⟩
    rw [f_X8_restsOn_16, hO.1, if_pos (nI_le (by omega) (by omega))]
    exact ⟨fun ⟨i', j', h1, h2, _⟩ => by omega, fun _ => rfl⟩
  | succ s ih =>
    intro i fuel hi hf
    obtain ⟨f, rfl⟩ : ∃ f, fuel = f + 1 := ⟨fuel - 1, by omega⟩
    obtain ⟨i1, i2⟩ := ih (i + 1) f (by omega) (by omega)
    obtain ⟨r1, r2⟩ := ron_in mA mB (show i < (pl A).length by omega) (K := f_X8_restsOn_16 f) hM hO hS (pl B).length 0 FU (by omega) (by show (pl B).length < 5000; omega)
    rw [f_X8_restsOn_16, hO.1, if_neg (nI_ge (by omega) (by omega))]
    rw [nI_0] at r1 r2
    by_cases q : ∃ j', 0 ≤ j' ∧ j' < (pl B).length ∧ fd A i = 5 ∧ fd B j' = 1 ∧ 0 < shz A B 5 1
    · rw [r1 q]
      obtain ⟨j', -, j2, j3, j4, j5⟩ := q
      exact ⟨fun _ => rfl, fun h => absurd ⟨i, j', Nat.le_refl _, by omega, j2, j3, j4, j5⟩ h⟩
    · rw [r2 q]
      refine ⟨fun ⟨i', j', h1, h2, h3, h4, h5, h6⟩ => i1 ⟨i', j', ?_, h2, h3, h4, h5, h6⟩, fun h => i2 (fun ⟨i', j', h1, h2⟩ => h ⟨i', j', by omega, h2⟩)⟩
      rcases Nat.eq_or_lt_of_le h1 with z | z
      · exact absurd ⟨j', Nat.zero_le _, h3, by rw [z]; exact h4, h5, h6⟩ q
      · exact z
theorem p_restsOn {σ : SS} (hM : MTb σ) {a b : Nat} (ha : a < 60) (hb : b < 60) {A B : Nat → Int} (gA : Good A) (gB : Good B) (sA : ∀ k, k < 8 → A k ≤ 8000) (sB : ∀ k, k < 8 → B k ≤ 8000) (bA : BD σ a (Ez A)) (bB : BD σ b (Ez B)) : ∃ σ', f_X8_restsOn (nI a) (nI b) σ = some (if 0 < cmn A B 5 then 1 else 0, σ') ∧ fri PN σ σ' := by
  have mA := good_sm gA sA
  have mB := good_sm gB sB
  have eA : ∀ k, k < 8 → -10000 ≤ Ez A k ∧ Ez A k ≤ 10000 := fun k hk => by have := ez_b gA sA k hk; omega
  have eB : ∀ k, k < 8 → -10000 ≤ Ez B k ∧ Ez B k ≤ 10000 := fun k hk => by have := ez_b gB sB k hk; omega
  obtain ⟨σ2, ps, t1, t2, -, -, -, t6⟩ := p_takes gA hM ha bA eA
  have hM2 : MTb σ2 := hM.fr t6 (fun r k h1 h2 => PT_m h1 h2)
  obtain ⟨σ3, u1, u2, u3⟩ := p_keepsSides t2
  have hM3 : MTb σ3 := hM2.fr u3 (by intro r k _ _; unfold PO; omega)
  have bB3 : BD σ3 b (Ez B) := (bB.fr t6 (fun k => PT_48)).fr u3 (by intro k; unfold PO; omega)
  obtain ⟨σ4, ps', w1, w2, -, -, -, w6⟩ := p_takes gB hM3 hb bB3 eB
  have hM4 : MTb σ4 := hM3.fr w6 (fun r k h1 h2 => PT_m h1 h2)
  have O4 : OF σ4 A := u2.fr w6 (by intro r k; unfold PO PT PG; omega)
  have lA := pl_len A
  obtain ⟨r1, r2⟩ := ron_out mA mB hM4 O4 w2 (pl A).length 0 FU (by omega) (by show (pl A).length < 5000; omega)
  rw [nI_0] at r1 r2
  refine ⟨σ4, ?_, (t6.mono (fun _ _ _ h => Or.inl h)).tr ((u3.mono (fun _ _ _ h => Or.inr (Or.inl h))).tr (w6.mono (fun _ _ _ h => Or.inl h)))⟩
  rw [f_X8_restsOn, t1, cal_some, u1, cal_some, w1, cal_some]
  by_cases q : 0 < cmn A B 5
  · obtain ⟨p1, p2, -, -⟩ := cmn_pos q
    obtain ⟨i, i1, i2⟩ := pl_on (by decide) p1
    obtain ⟨j, j1, j2⟩ := pl_on (by decide) p2
    have := shz_of (by decide) q
    rw [if_pos q, r1 ⟨i, j, Nat.zero_le _, i1, j1, i2, j2, by
      have e : shz A B 5 1 = cmn A B 5 := this
      omega⟩]
  · rw [if_neg q]
    refine r2 (fun ⟨i, j, _, i1, j1, i2, j2, h⟩ => q ?_)
    have s1 := (pl_in i1).2
    have s2 := (pl_in j1).2
    rw [i2] at s1
    rw [j2] at s2
    unfold shz at h
    by_cases z : 1 % 4 = 5 % 4 ∧ mz 5 (vx B 1) (vy B 1) = A 5
    · rw [if_pos z] at h
      have o1 := (v_on B 1 (by decide)).1
      simp only [mz] at z o1
      unfold cmn
      rw [if_pos ⟨s1, s2, by show A 5 + B 1 = 0; omega⟩]
      exact h
    · rw [if_neg z] at h
      omega
