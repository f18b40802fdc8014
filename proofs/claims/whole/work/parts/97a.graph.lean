/-! ===== PURE: assemblies: what stands in what; how many are walked ===== -/
def sumI (f : Nat → Nat) : Nat → Nat
  | 0 => 0
  | k + 1 => sumI f k + f k
theorem sumI_cg {f g : Nat → Nat} : ∀ {k}, (∀ i, i < k → f i = g i) → sumI f k = sumI g k := by
  intro k
  induction k with
  | zero => intro _; rfl
  | succ k ih =>
    intro h
    show sumI f k + f k = sumI g k + g k
    rw [ih (fun i hi => h i (by omega)), h k (by omega)]
theorem sumI_le {f g : Nat → Nat} : ∀ {k}, (∀ i, i < k → f i ≤ g i) → sumI f k ≤ sumI g k := by
  intro k
  induction k with
  | zero => intro _; exact Nat.le_refl _
  | succ k ih =>
    intro h
    show sumI f k + f k ≤ sumI g k + g k
    have := ih (fun i hi => h i (by omega))
    have := h k (by omega)
    omega
theorem sumI_b {f : Nat → Nat} {B : Nat} : ∀ {k}, (∀ i, i < k → f i ≤ B) → sumI f k ≤ k * B := by
  intro k
  induction k with
  | zero => intro _; exact Nat.zero_le _
  | succ k ih =>
    intro h
    show sumI f k + f k ≤ (k + 1) * B
    have := ih (fun i hi => h i (by omega))
    have := h k (by omega)
    rw [Nat.succ_mul]
    omega
theorem sumI_add {f g : Nat → Nat} : ∀ k, sumI (fun i => f i + g i) k = sumI f k + sumI g k := by
  intro k
  induction k with
  | zero => rfl
  | succ k ih =>
    show sumI _ k + (f k + g k) = sumI f k + f k + (sumI g k + g k)
    rw [ih]
    omega
theorem cex_le {f g : Nat → Bool} : ∀ {k}, (∀ b, b < k → f b = true → g b = true) → cex f k ≤ cex g k := by
  intro k
  induction k with
  | zero => intro _; exact Nat.le_refl _
  | succ k ih =>
    intro h
    show cex f k + _ ≤ cex g k + _
    have i := ih (fun b hb => h b (by omega))
    by_cases q : f k = true
    · rw [if_pos q, if_pos (h k (by omega) q)]
      omega
    · rw [if_neg q]
      omega
theorem cex_lt {f g : Nat → Bool} {c : Nat} (hf : f c = false) (hg : g c = true) : ∀ {k}, c < k → (∀ b, b < k → f b = true → g b = true) → cex f k < cex g k := by
  intro k
  induction k with
  | zero => intro h; omega
  | succ k ih =>
    intro hc h
    show cex f k + _ < cex g k + _
    by_cases q : c = k
    · subst q
      have i := cex_le (f := f) (g := g) (k := c) (fun b hb => h b (by omega))
      rw [if_neg (by rw [hf]; decide), if_pos hg]
      omega
    · have i := ih (by omega) (fun b hb => h b (by omega))
      by_cases q : f k = true
      · rw [if_pos q, if_pos (h k (by omega) q)]
        omega
      · rw [if_neg q]
        omega
/-- what stands in what -/
def GR (an : Nat) (m : Nat → Nat) (wh : Nat → Nat → Bool) (it : Nat → Nat → Nat) (wi : Nat → Nat → Bool) : Prop := (∀ a, a < an → m a ≤ 20 ∧ ∀ i, i < m a → wh a i = true → it a i < an ∧ wi a (it a i) = true ∧ ∀ b, wi (it a i) b = true → wi a b = true) ∧ ∀ a b, a < an → wi a b = true → b < an ∧ b ≠ a ∧ ∃ i, i < m a ∧ wh a i = true ∧ (it a i = b ∨ wi (it a i) b = true)
def rk (wi : Nat → Nat → Bool) (a : Nat) : Nat := cex (wi a) 12
theorem GR.rk_lt {an : Nat} {m : Nat → Nat} {wh : Nat → Nat → Bool} {it : Nat → Nat → Nat} {wi : Nat → Nat → Bool} (h : GR an m wh it wi) (hn : an ≤ 12) {a i : Nat} (ha : a < an) (hi : i < m a) (hw : wh a i = true) : rk wi (it a i) < rk wi a := by
  obtain ⟨h1, h2, h3⟩ := (h.1 a ha).2 i hi hw
  refine cex_lt (c := it a i) ?_ h2 (by omega) (fun b _ hb => h3 b hb)
  cases q : wi (it a i) (it a i) with
  | false => rfl
  | true => exact absurd rfl (h.2 _ _ h1 q).2.1
theorem GR.rk_an {an : Nat} {m : Nat → Nat} {wh : Nat → Nat → Bool} {it : Nat → Nat → Nat} {wi : Nat → Nat → Bool} (h : GR an m wh it wi) (hn : an ≤ 12) {a : Nat} (ha : a < an) : rk wi a < an := by
  have key : ∀ k, cex (wi a) k + (if a < k then 1 else 0) ≤ min k an := by
    intro k
    induction k with
    | zero => simp [cex]
    | succ k ih =>
      show cex (wi a) k + (if wi a k = true then 1 else 0) + _ ≤ _
      by_cases q : wi a k = true
      · obtain ⟨h1, h2, -⟩ := h.2 a k ha q
        rw [if_pos q]
        by_cases z : a < k
        · rw [if_pos z] at ih
          rw [if_pos (by omega)]
          omega
        · rw [if_neg z] at ih
          rw [if_neg (by omega)]
          omega
      · rw [if_neg q]
        by_cases z : a < k
        · rw [if_pos z] at ih
          rw [if_pos (by omega)]
          omega
        · rw [if_neg z] at ih
          by_cases z2 : a < k + 1
          · rw [if_pos z2]
            omega
          · rw [if_neg z2]
            omega
  have := key 12
  rw [if_pos (by omega)] at this
  unfold rk
  omega
/-- how many are walked, cut at a million -/
def sW (m : Nat → Nat) (wh : Nat → Nat → Bool) (it : Nat → Nat → Nat) (w : Nat → Nat) (a : Nat) : Nat := sumI (fun i => if wh a i = true then w (it a i) else 1) (m a)
def Wcf (m : Nat → Nat) (wh : Nat → Nat → Bool) (it : Nat → Nat → Nat) : Nat → Nat → Nat
  | 0, _ => 0
  | f + 1, a => min 1000000 (sW m wh it (Wcf m wh it f) a)
theorem Wcf_st {an : Nat} {m : Nat → Nat} {wh : Nat → Nat → Bool} {it : Nat → Nat → Nat} {wi : Nat → Nat → Bool} (h : GR an m wh it wi) (hn : an ≤ 12) : ∀ f a, a < an → rk wi a < f → Wcf m wh it (f + 1) a = Wcf m wh it f a := by
  intro f
  induction f with
  | zero => intro a _ hr; omega
  | succ f ih =>
    intro a ha hr
    show min 1000000 (sW m wh it (Wcf m wh it (f + 1)) a) = min 1000000 (sW m wh it (Wcf m wh it f) a)
    congr 1
    refine sumI_cg (fun i hi => ?_)
    cases q : wh a i with
    | false => rfl
    | true =>
      simp only [if_true]
      have := h.rk_lt hn ha hi q
      exact ih _ ((h.1 a ha).2 i hi q).1 (by omega)
def Wc (m : Nat → Nat) (wh : Nat → Nat → Bool) (it : Nat → Nat → Nat) (a : Nat) : Nat := Wcf m wh it 12 a
theorem Wc_eq {an : Nat} {m : Nat → Nat} {wh : Nat → Nat → Bool} {it : Nat → Nat → Nat} {wi : Nat → Nat → Bool} (h : GR an m wh it wi) (hn : an ≤ 12) {a : Nat} (ha : a < an) : Wc m wh it a = min 1000000 (sW m wh it (Wc m wh it) a) := by
  have := h.rk_an hn ha
  exact (Wcf_st h hn 12 a ha (by omega)).symm
/-- induction along what stands in what -/
theorem GR.ind {an : Nat} {m : Nat → Nat} {wh : Nat → Nat → Bool} {it : Nat → Nat → Nat} {wi : Nat → Nat → Bool} (h : GR an m wh it wi) (hn : an ≤ 12) {P : Nat → Prop} (hs : ∀ a, a < an → (∀ i, i < m a → wh a i = true → P (it a i)) → P a) : ∀ a, a < an → P a := by
  have key : ∀ f a, a < an → rk wi a < f → P a := by
    intro f
    induction f with
    | zero => intro a _ hr; omega
    | succ f ih =>
      intro a ha hr
      refine hs a ha (fun i hi hw => ?_)
      have := h.rk_lt hn ha hi hw
      exact ih _ ((h.1 a ha).2 i hi hw).1 (by omega)
  intro a ha
  exact key (rk wi a + 1) a ha (by omega)
theorem Wc_of {an : Nat} {m : Nat → Nat} {wh : Nat → Nat → Bool} {it : Nat → Nat → Nat} {wi : Nat → Nat → Bool} (h : GR an m wh it wi) (hn : an ≤ 12) {W : Nat → Nat} (hW : ∀ a, a < an → W a = sW m wh it W a ∧ W a ≤ 500) : ∀ a, a < an → Wc m wh it a = W a := by
  refine h.ind hn (fun a ha hi => ?_)
  obtain ⟨h1, h2⟩ := hW a ha
  have e : sW m wh it (Wc m wh it) a = sW m wh it W a := sumI_cg (fun i him => by
    cases q : wh a i with
    | false => rfl
    | true =>
      simp only [if_true]
      exact hi i him q)
  rw [Wc_eq h hn ha, e, ← h1]
  omega
