/-! ===== PURE: countWalks ===== -/
/-- the model's rows of assemblies -/
def MI8 (σ : SS) (an : Nat) (m : Nat → Nat) (wh : Nat → Nat → Bool) (it : Nat → Nat → Nat) : Prop := σ.1 25 0 41 = nI an ∧ ∀ a, a < an → σ.1 82 0 a = nI (m a) ∧ ∀ i, i < m a → σ.1 83 0 (20 * a + i) = nI (it a i) ∧ σ.1 84 0 (20 * a + i) = b01 (wh a i)
def P85 (r _i _k : Nat) : Prop := r = 85
theorem MI8.fr {P : Nat → Nat → Nat → Prop} {σ τ : SS} {an : Nat} {m : Nat → Nat} {wh : Nat → Nat → Bool} {it : Nat → Nat → Nat} (h : MI8 σ an m wh it) (f : fri P σ τ) (hp : ∀ r k, (82 ≤ r ∧ r ≤ 84) ∨ (r = 25 ∧ k = 41) → ¬ P r 0 k) : MI8 τ an m wh it := by
  refine ⟨by rw [f.1 25 0 41 (hp _ _ (by omega))]; exact h.1, fun a ha => ⟨by rw [f.1 82 0 a (hp _ _ (by omega))]; exact (h.2 a ha).1, fun i hi => ?_⟩⟩
  rw [f.1 83 0 _ (hp _ _ (by omega)), f.1 84 0 _ (hp _ _ (by omega))]
  exact (h.2 a ha).2 i hi
theorem n240 {a i : Nat} (ha : a < 12) (hi : i < 20) : (20 : Int32) * nI a + nI i = nI (20 * a + i) ∧ inr (nI (20 * a + i)) 240 ∧ ix (nI (20 * a + i)) = 20 * a + i := by
  refine ⟨?_, nI_in (by omega) (by decide), nI_clamp (by omega)⟩
  show nI 20 * nI a + nI i = _
  rw [pk_mul, nI_add]
def WK (σ : SS) (an : Nat) (w : Nat → Nat) : Prop := ∀ a, a < an → σ.1 85 0 a = nI (w a) ∧ w a ≤ 1000000
theorem cw51 {σ : SS} {an : Nat} {m : Nat → Nat} {wh : Nat → Nat → Bool} {it : Nat → Nat → Nat} {wi : Nat → Nat → Bool} (hG : GR an m wh it wi) (hn : an ≤ 12) (hI : MI8 σ an m wh it) {w : Nat → Nat} (hw : WK σ an w) {a : Nat} (ha : a < an) {v1 v2 : Int32} {K27 : Int32 → Int32 → SS → Option (Int32 × SS)} {K37 : Int32 → Int32 → Int32 → SS → Option (Int32 × SS)} : ∀ (s i fuel : Nat), i + s = m a → s < fuel → f_X8_countWalks_51 K27 K37 fuel v1 v2 (nI a) (nI (sumI (fun i => if wh a i = true then w (it a i) else 1) i)) (nI i) σ = f_X8_countWalks_109 K27 K37 v1 v2 (nI a) (nI (sW m wh it w a)) σ := by
  obtain ⟨g1, g2, -, -⟩ := n12 (show a < 12 by omega)
  obtain ⟨e82, hit⟩ := hI.2 a ha
  obtain ⟨m20, hgr⟩ := hG.1 a ha
  intro s
  induction s with
  | zero =>
    intro i fuel hi hf
    obtain ⟨f, rfl⟩ : ∃ f, fuel = f + 1 := ⟨fuel - 1, by omega⟩
    rw [f_X8_countWalks_51, chk_p g1, g2, e82, if_pos (nI_le (by omega) (by omega)), show i = m a by omega]
    rfl
  | succ s ih =>
    intro i fuel hi hf
    obtain ⟨f, rfl⟩ : ∃ f, fuel = f + 1 := ⟨fuel - 1, by omega⟩
    have him : i < m a := by omega
    obtain ⟨n1, n2, n3⟩ := n240 (show a < 12 by omega) (show i < 20 by omega)
    obtain ⟨e83, e84⟩ := hit i him
    have j := ih (i + 1) f (by omega) (by omega)
    have es : sumI (fun i => if wh a i = true then w (it a i) else 1) (i + 1) = sumI (fun i => if wh a i = true then w (it a i) else 1) i + (if wh a i = true then w (it a i) else 1) := rfl
    rw [es] at j
    rw [f_X8_countWalks_51, chk_p g1, g2, e82, if_neg (nI_ge him (by omega)), n1, chk_p n2, n3, e84]
    cases q : wh a i with
    | false =>
      rw [q, if_neg (by decide)] at j
      rw [if_pos (show b01 false = 0 by decide), f_X8_countWalks_100, lt_eq, lt_eq, nI_1, nI_1]
      exact j
    | true =>
      have hb := (hgr i him q).1
      obtain ⟨k1, k2, -, -⟩ := n12 (show it a i < 12 by omega)
      rw [q, if_pos rfl] at j
      rw [if_neg (show ¬ b01 true = 0 by decide), chk_p n2, e83, chk_p k1, k2, (hw _ hb).1, f_X8_countWalks_100, lt_eq, lt_eq, nI_1, nI_add]
      exact j
theorem cw109 {σ : SS} {a S M : Nat} (ha : a < 12) (hS : S < 100000000) (hM : M ≤ 1000000) {v2 : Int32} {K27 : Int32 → Int32 → SS → Option (Int32 × SS)} {K37 : Int32 → Int32 → Int32 → SS → Option (Int32 × SS)} : f_X8_countWalks_109 K27 K37 (nI M) v2 (nI a) (nI S) σ = K37 (nI (max M (min 1000000 S))) v2 (nI (a + 1)) (up σ 85 0 a (nI (min 1000000 S))) := by
  obtain ⟨g1, g2, -, -⟩ := n12 ha
  have e130 : ∀ T : Nat, T ≤ 1000000 → f_X8_countWalks_130 K27 K37 (nI M) v2 (nI a) (nI a) (nI T) σ = K37 (nI (max M T)) v2 (nI (a + 1)) (up σ 85 0 a (nI T)) := by
    intro T hT
    have r : (up σ 85 0 a (nI T)).1 85 0 a = nI T := by simp only [up_rd, and_self, if_true]
    rw [f_X8_countWalks_130, chk_p g1, g2, lt_eq, chk_p g1, r]
    by_cases q : T ≤ M
    · rw [if_pos (nI_le q (by omega)), f_X8_countWalks_151, lt_eq, nI_1, Nat.max_eq_left q]
    · rw [if_neg (nI_ge (by omega) (by omega)), chk_p g1, f_X8_countWalks_151, lt_eq, nI_1, Nat.max_eq_right (by omega)]
  rw [f_X8_countWalks_109]
  by_cases q : 1000000 ≤ S
  · rw [if_pos (show (1000000 : Int32) ≤ nI S from nI_le (a := 1000000) q (by omega)), Nat.min_eq_left q]
    exact e130 1000000 (by omega)
  · rw [if_neg (show ¬ (1000000 : Int32) ≤ nI S from nI_ge (b := 1000000) (by omega) (by decide)), Nat.min_eq_right (by omega)]
    exact e130 S (by omega)
/-- after t rounds and a assemblies of the next: those of low rank are counted -/
def UI (an : Nat) (wi : Nat → Nat → Bool) (C w : Nat → Nat) (M t a : Nat) : Prop := (M ≤ 1000000 ∧ ∀ X, (∀ b, b < an → C b ≤ X) → M ≤ X) ∧ ∀ b, b < an → w b ≤ C b ∧ (rk wi b < t ∨ (b < a ∧ rk wi b < t + 1) → w b = C b ∧ C b ≤ M)
theorem cw37 {an : Nat} {m : Nat → Nat} {wh : Nat → Nat → Bool} {it : Nat → Nat → Nat} {wi : Nat → Nat → Bool} (hG : GR an m wh it wi) (hn : an ≤ 12) {t : Nat} {K27 : Int32 → Int32 → SS → Option (Int32 × SS)} : ∀ (s a fuel : Nat) (σ : SS) (w : Nat → Nat) (M : Nat), a + s = an → s < fuel → MI8 σ an m wh it → WK σ an w → UI an wi (Wc m wh it) w M t a → ∃ σ' w' M', f_X8_countWalks_37 K27 fuel (nI M) (nI t) (nI a) σ = K27 (nI M') (nI (t + 1)) σ' ∧ WK σ' an w' ∧ UI an wi (Wc m wh it) w' M' (t + 1) 0 ∧ fri P85 σ σ' := by
  intro s
  induction s with
  | zero =>
    intro a fuel σ w M ha hf hI hW hU
    obtain ⟨f, rfl⟩ : ∃ f, fuel = f + 1 := ⟨fuel - 1, by omega⟩
    rw [f_X8_countWalks_37, hI.1, if_pos (nI_le (by omega) (by omega)), f_X8_countWalks_158, lt_eq, nI_1]
    refine ⟨σ, w, M, rfl, hW, ⟨hU.1, fun b hb => ⟨(hU.2 b hb).1, fun z => (hU.2 b hb).2 ?_⟩⟩, fri.rf _ _⟩
    rcases z with z | ⟨z, -⟩
    · exact Or.inr ⟨by omega, z⟩
    · omega
  | succ s ih =>
    intro a fuel σ w M ha hf hI hW hU
    obtain ⟨f, rfl⟩ : ∃ f, fuel = f + 1 := ⟨fuel - 1, by omega⟩
    have haa : a < an := by omega
    obtain ⟨m20, hgr⟩ := hG.1 a haa
    have sb : sW m wh it w a ≤ m a * 1000000 := sumI_b (fun i hi => by
      cases q : wh a i with
      | false => simp
      | true =>
        simp only [if_true]
        exact (hW _ (hgr i hi q).1).2)
    have sb2 : sW m wh it w a < 100000000 := by
      have : m a * 1000000 ≤ 20 * 1000000 := Nat.mul_le_mul_right _ m20
      omega
    have sle : sW m wh it w a ≤ sW m wh it (Wc m wh it) a := sumI_le (fun i hi => by
      cases q : wh a i with
      | false => exact Nat.le_refl _
      | true =>
        simp only [if_true]
        exact (hU.2 _ (hgr i hi q).1).1)
    have wce := Wc_eq hG hn haa
    have low : rk wi a < t + 1 → sW m wh it w a = sW m wh it (Wc m wh it) a := fun hr => sumI_cg (fun i hi => by
      cases q : wh a i with
      | false => rfl
      | true =>
        simp only [if_true]
        have := hG.rk_lt hn haa hi q
        exact ((hU.2 _ (hgr i hi q).1).2 (Or.inl (by omega))).1)
    have f1 : fri P85 σ (up σ 85 0 a (nI (min 1000000 (sW m wh it w a)))) := fri.up (fri.rf _ _) rfl
    have run : f_X8_countWalks_37 K27 (f + 1) (nI M) (nI t) (nI a) σ = f_X8_countWalks_37 K27 f (nI (max M (min 1000000 (sW m wh it w a)))) (nI t) (nI (a + 1)) (up σ 85 0 a (nI (min 1000000 (sW m wh it w a)))) := by
      rw [f_X8_countWalks_37, hI.1, if_neg (nI_ge haa (by omega))]
      have := cw51 hG hn hI hW haa (v1 := nI M) (v2 := nI t) (K27 := K27) (K37 := f_X8_countWalks_37 K27 f) (m a) 0 FU (by omega) (by show m a < 5000; omega)
      have e0 : nI (sumI (fun i => if wh a i = true then w (it a i) else 1) 0) = (0 : Int32) := rfl
      rw [e0, nI_0] at this
      rw [this, cw109 (by omega) sb2 hU.1.1]
    rw [run]
    obtain ⟨σ', w', M', q1, q2, q3, q4⟩ := ih (a + 1) f (up σ 85 0 a (nI (min 1000000 (sW m wh it w a)))) (fun b => if b = a then min 1000000 (sW m wh it w a) else w b) (max M (min 1000000 (sW m wh it w a))) (by omega) (by omega) (hI.fr f1 (by intro r k; unfold P85; omega)) (fun b hb => by
      by_cases z : b = a
      · simp only [if_pos z, up_rd, z, and_self, if_true]
        exact ⟨trivial, by omega⟩
      · simp only [if_neg z]
        rw [up_rd, if_neg (by omega)]
        exact hW b hb) ⟨⟨by have := hU.1.1; omega, fun X hX => by
          have h1 := hU.1.2 X hX
          have h2 := hX a haa
          omega⟩, fun b hb => by
        by_cases z : b = a
        · subst z
          simp only [if_true]
          refine ⟨by omega, fun hz => ?_⟩
          have := low (by omega)
          omega
        · simp only [if_neg z]
          refine ⟨(hU.2 b hb).1, fun hz => ?_⟩
          have := (hU.2 b hb).2 (by omega)
          exact ⟨this.1, by omega⟩⟩
    exact ⟨σ', w', M', q1, q2, q3, f1.tr q4⟩
theorem cw27 {an : Nat} {m : Nat → Nat} {wh : Nat → Nat → Bool} {it : Nat → Nat → Nat} {wi : Nat → Nat → Bool} (hG : GR an m wh it wi) (hn : an ≤ 12) : ∀ (s t fuel : Nat) (σ : SS) (w : Nat → Nat) (M : Nat), t + s = an → s < fuel → MI8 σ an m wh it → WK σ an w → UI an wi (Wc m wh it) w M t 0 → ∃ σ' w' M', f_X8_countWalks_27 fuel (nI M) (nI t) σ = some (nI M', σ') ∧ WK σ' an w' ∧ UI an wi (Wc m wh it) w' M' an 0 ∧ fri P85 σ σ' := by
  intro s
  induction s with
  | zero =>
    intro t fuel σ w M ht hf hI hW hU
    obtain ⟨f, rfl⟩ : ∃ f, fuel = f + 1 := ⟨fuel - 1, by omega⟩
    rw [f_X8_countWalks_27, hI.1, if_pos (nI_le (by omega) (by omega))]
    exact ⟨σ, w, M, rfl, hW, by rw [show an = t by omega] at hU ⊢; exact hU, fri.rf _ _⟩
  | succ s ih =>
    intro t fuel σ w M ht hf hI hW hU
    obtain ⟨f, rfl⟩ : ∃ f, fuel = f + 1 := ⟨fuel - 1, by omega⟩
    rw [f_X8_countWalks_27, hI.1, if_neg (nI_ge (by omega) (by omega))]
    obtain ⟨σ1, w1, M1, q1, q2, q3, q4⟩ := cw37 hG hn (t := t) (K27 := f_X8_countWalks_27 f) an 0 FU σ w M (by omega) (by show an < 5000; omega) hI hW hU
    obtain ⟨σ2, w2, M2, r1, r2, r3, r4⟩ := ih (t + 1) f σ1 w1 M1 (by omega) (by omega) (hI.fr q4 (by intro r k; unfold P85; omega)) q2 q3
    rw [nI_0] at q1
    exact ⟨σ2, w2, M2, q1.trans r1, r2, r3, q4.tr r4⟩
theorem cw2 {an : Nat} {m : Nat → Nat} {wh : Nat → Nat → Bool} {it : Nat → Nat → Nat} (hn : an ≤ 12) : ∀ (s t fuel : Nat) (σ : SS), t + s = an → s < fuel → MI8 σ an m wh it → (∀ b, b < t → σ.1 85 0 b = nI 0) → ∃ σ', f_X8_countWalks_2 fuel (nI t) σ = f_X8_countWalks_23 σ' ∧ (∀ b, b < an → σ'.1 85 0 b = nI 0) ∧ fri P85 σ σ' := by
  intro s
  induction s with
  | zero =>
    intro t fuel σ ht hf hI hb
    obtain ⟨f, rfl⟩ : ∃ f, fuel = f + 1 := ⟨fuel - 1, by omega⟩
    rw [f_X8_countWalks_2, hI.1, if_pos (nI_le (by omega) (by omega))]
    exact ⟨σ, rfl, fun b h => hb b (by omega), fri.rf _ _⟩
  | succ s ih =>
    intro t fuel σ ht hf hI hb
    obtain ⟨f, rfl⟩ : ∃ f, fuel = f + 1 := ⟨fuel - 1, by omega⟩
    obtain ⟨g1, g2, -, -⟩ := n12 (show t < 12 by omega)
    have f1 : fri P85 σ (up σ 85 0 t 0) := fri.up (fri.rf _ _) rfl
    rw [f_X8_countWalks_2, hI.1, if_neg (nI_ge (by omega) (by omega)), chk_p g1, g2, lt_eq, lt_eq, nI_1]
    obtain ⟨σ', q1, q2, q3⟩ := ih (t + 1) f (up σ 85 0 t 0) (by omega) (by omega) (hI.fr f1 (by intro r k; unfold P85; omega)) (fun b h => by
      by_cases z : b = t
      · rw [z]
        simp only [up_rd, and_self, if_true]
        rfl
      · rw [up_rd, if_neg (by omega)]
        exact hb b (by omega))
    exact ⟨σ', q1, q2, f1.tr q3⟩
theorem p_countWalks {σ : SS} {an : Nat} {m : Nat → Nat} {wh : Nat → Nat → Bool} {it : Nat → Nat → Nat} {wi : Nat → Nat → Bool} (hG : GR an m wh it wi) (hn : an ≤ 12) (hI : MI8 σ an m wh it) : ∃ σ' v, f_X8_countWalks σ = some (nI v, σ') ∧ (∀ a, a < an → σ'.1 85 0 a = nI (Wc m wh it a)) ∧ (v ≤ 1000000 ∧ (v ≤ 500 ↔ ∀ a, a < an → Wc m wh it a ≤ 500)) ∧ fri P85 σ σ' := by
  obtain ⟨σ1, a1, a2, a3⟩ := cw2 hn an 0 FU σ (by omega) (by show an < 5000; omega) hI (fun b h => absurd h (Nat.not_lt_zero _))
  obtain ⟨σ2, w, M, b1, b2, b3, b4⟩ := cw27 hG hn an 0 FU σ1 (fun _ => 0) 0 (by omega) (by show an < 5000; omega) (hI.fr a3 (by intro r k; unfold P85; omega)) (fun b hb => ⟨a2 b hb, Nat.zero_le _⟩) ⟨⟨by omega, fun X _ => Nat.zero_le _⟩, fun b hb => ⟨Nat.zero_le _, fun z => by omega⟩⟩
  have all : ∀ b, b < an → w b = Wc m wh it b ∧ Wc m wh it b ≤ M := fun b hb => (b3.2 b hb).2 (Or.inl (hG.rk_an hn hb))
  rw [nI_0] at a1 b1
  refine ⟨σ2, M, by rw [f_X8_countWalks, a1, f_X8_countWalks_23, b1], fun a ha => by rw [(b2 a ha).1, (all a ha).1], ⟨b3.1.1, fun h a ha => ?_, fun h => b3.1.2 500 h⟩, a3.tr b4⟩
  have := (all a ha).2
  omega
