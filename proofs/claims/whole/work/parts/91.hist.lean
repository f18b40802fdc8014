/-! ===== PURE: what was done last, on both sides ===== -/
def hcv (so pc : Nat) : Int32 := if so = 1 then -1 else nI pc
def hfv (so nb : Nat) : Int32 := if so = 2 then -1 else nI nb
/-- where the ring holds entry j (the oldest: 0) -/
def rq (m la j : Nat) : Nat := (la + 9 + j - m) % 8
def H7 (σ : SS) (m la : Nat) (so pc nb : Nat → Nat) (Ro : Nat → Nat → Int) : Prop := (m ≤ 8 ∧ la < 8 ∧ σ.1 3 0 3 = nI la ∧ σ.1 3 0 4 = nI m) ∧ ∀ j, j < m → σ.1 4 0 (rq m la j) = hcv (so j) (pc j) ∧ σ.1 5 0 (rq m la j) = hfv (so j) (nb j) ∧ (so j ≠ 1 → ∀ k, k < 8 → σ.1 6 0 (8 * rq m la j + k) = iz (Ro j k))
def H8 (σ : SS) (m : Nat) (so pc : Nat → Nat) (Ro : Nat → Nat → Int) : Prop := σ.1 25 0 23 = nI m ∧ ∀ j, j < m → σ.1 64 0 j = nI (so j) ∧ σ.1 65 0 j = nI (pc j) ∧ (so j ≠ 1 → ∀ k, k < 8 → σ.1 66 0 (8 * j + k) = iz (Ez (Ro j) k))
def HV (n m : Nat) (so pc nb : Nat → Nat) (Ro : Nat → Nat → Int) : Prop := nb m = n ∧ ∀ j, j < m → (so j = 1 ∨ so j = 2 ∨ so j = 3) ∧ nb (j + 1) = nb j + (if so j = 2 then 0 else 1) ∧ (so j = 1 → pc j = nb j) ∧ (so j ≠ 1 → pc j < nb j ∧ Good (Ro j) ∧ ∀ k, k < 8 → Ro j k ≤ 8000)
def mm (m : Nat) : Nat := if m < 8 then m + 1 else 8
def shf {α : Type} (m : Nat) (f : Nat → α) (x : α) : Nat → α := fun j => if m < 8 then (if j = m then x else f j) else (if j = 7 then x else f (j + 1))
def shn (m : Nat) (nb : Nat → Nat) (x : Nat) : Nat → Nat := fun j => if m < 8 then (if j = m + 1 then x else nb j) else (if j = 8 then x else nb (j + 1))
theorem HV.push {n m : Nat} {so pc nb : Nat → Nat} {Ro : Nat → Nat → Int} (hm : m ≤ 8) (h : HV n m so pc nb Ro) {s p : Nat} {Rn : Nat → Int} (h1 : s = 1 ∨ s = 2 ∨ s = 3) (h2 : s = 1 → p = n) (h3 : s ≠ 1 → p < n ∧ Good Rn ∧ ∀ k, k < 8 → Rn k ≤ 8000) : HV (n + (if s = 2 then 0 else 1)) (mm m) (shf m so s) (shf m pc p) (shn m nb (n + (if s = 2 then 0 else 1))) (shf m Ro Rn) := by
  obtain ⟨a, b⟩ := h
  unfold mm shf shn
  by_cases q : m < 8
  · simp only [if_pos q]
    refine ⟨by simp only [if_true], fun j hj => ?_⟩
    by_cases qj : j = m
    · subst qj
      simp only [if_true]
      have e1 : ¬ j = j + 1 := by omega
      rw [if_neg e1, a]
      exact ⟨h1, rfl, h2, h3⟩
    · have e1 : ¬ j + 1 = m + 1 := by omega
      have e2 : ¬ j = m + 1 := by omega
      simp only [if_neg qj, if_neg e1, if_neg e2]
      exact b j (by omega)
  · have hm8 : m = 8 := by omega
    subst hm8
    simp only [if_neg q]
    refine ⟨by simp only [if_true], fun j hj => ?_⟩
    by_cases qj : j = 7
    · subst qj
      have e1 : ¬ (7 : Nat) = 8 := by omega
      simp only [if_true, if_neg e1]
      rw [a]
      exact ⟨h1, rfl, h2, h3⟩
    · have e1 : ¬ j + 1 = 8 := by omega
      have e2 : ¬ j = 8 := by omega
      simp only [if_neg qj, if_neg e1, if_neg e2]
      exact b (j + 1) (by omega)
theorem cpy_rd (σ : SS) (r0 i0 sp r1 i1 dp n r i k : Nat) : (cpy σ r0 i0 sp r1 i1 dp n).1 r i k = if r = r1 ∧ i = i1 then va_cpy (σ.1 r0 i0) (σ.1 r1 i1) sp dp n k else σ.1 r i k := rfl
theorem keep_ix : ∀ t, t < 8 → (nI t + (1 : Int32)) - (nI t + (1 : Int32)) / (8 : Int32) * (8 : Int32) = nI ((t + 1) % 8) := fun t ht => (settle_ix t ht).2
theorem keep_sz : ∀ m, m < 9 → (if (8 : Int32) < nI m + 1 then (8 : Int32) else nI m + 1) = nI (mm m) := by decide +kernel
def PH7 (r i k : Nat) : Prop := i = 0 ∧ ((r = 3 ∧ (k = 3 ∨ k = 4)) ∨ r = 4 ∨ r = 5 ∨ r = 6)
theorem p_keep7 {σ : SS} {m la : Nat} {so pc nb : Nat → Nat} {Ro : Nat → Nat → Int} (h : H7 σ m la so pc nb Ro) {s p b n' : Nat} {Rn : Nat → Int} (hb : nb m = b) (hs : s = 1 ∨ s = 2 ∨ s = 3) (hR : s ≠ 1 → ∀ k, k < 8 → σ.1 18 p k = iz (Rn k)) : ∃ σ', f_X2_keep (hcv s p) (if s = 1 then none else some p) (hfv s b) σ = some ((), σ') ∧ H7 σ' (mm m) ((la + 1) % 8) (shf m so s) (shf m pc p) (shn m nb n') (shf m Ro Rn) ∧ fri PH7 σ σ' := by
  obtain ⟨⟨m8, l8, e3, e4⟩, hE⟩ := h
  have l8' : (la + 1) % 8 < 8 := Nat.mod_lt _ (by decide)
  obtain ⟨g1, g2⟩ := n8 l8'
  generalize hσ4 : up (up (up (up σ 3 0 3 (nI ((la + 1) % 8))) 3 0 4 (nI (mm m))) 4 0 ((la + 1) % 8) (hcv s p)) 5 0 ((la + 1) % 8) (hfv s b) = σ4
  have r3 : σ4.1 3 0 3 = nI ((la + 1) % 8) := by rw [← hσ4]; simp (config := { decide := true }) only [up_rd, and_self, if_true, and_false, false_and, if_false]
  have r4 : σ4.1 3 0 4 = nI (mm m) := by rw [← hσ4]; simp (config := { decide := true }) only [up_rd, and_self, if_true, and_false, false_and, if_false]
  have c4 : ∀ q, σ4.1 4 0 q = if q = (la + 1) % 8 then hcv s p else σ.1 4 0 q := by
    intro q
    rw [← hσ4]
    simp (config := { decide := true }) only [up_rd, true_and, false_and, if_false]
  have c5 : ∀ q, σ4.1 5 0 q = if q = (la + 1) % 8 then hfv s b else σ.1 5 0 q := by
    intro q
    rw [← hσ4]
    simp (config := { decide := true }) only [up_rd, true_and, false_and, if_false]
  have f4 : fri PH7 σ σ4 := by
    rw [← hσ4]
    refine fri.up (fri.up (fri.up (fri.up (fri.rf _ _) ?_) ?_) ?_) ?_ <;> (unfold PH7; omega)
  have run : f_X2_keep (hcv s p) (if s = 1 then none else some p) (hfv s b) σ = Option.elim (if s = 1 then none else some p) (some ((), σ4)) (fun i5 => some ((), cpy σ4 18 i5 0 6 0 (8 * ((la + 1) % 8)) 8)) := by
    have e8 : nI ((la + 1) % 8) * (8 : Int32) = nI (8 * ((la + 1) % 8)) := by
      show nI ((la + 1) % 8) * nI 8 = _
      rw [pk_mul, Nat.mul_comm]
    have i8 : ix (8 : Int32) = 8 := by decide
    have i0 : ix (0 : Int32) = 0 := by decide
    have ix8 : ix (nI (8 * ((la + 1) % 8))) = 8 * ((la + 1) % 8) := nI_clamp (by omega)
    have hck : ¬ (0 : Int32) < 0 ∧ ¬ nI (8 * ((la + 1) % 8)) < 0 ∧ ¬ (8 : Int32) < 0 ∧ 0 + 8 ≤ 8 ∧ 8 * ((la + 1) % 8) + 8 ≤ 64 := ⟨by decide, nI_pos (by omega), by decide, by omega, by omega⟩
    have st : up (up (up (up σ 3 0 3 (((σ.1 3 0 3) + (1 : Int32)) - ((σ.1 3 0 3) + (1 : Int32)) / (8 : Int32) * (8 : Int32))) 3 0 4 (if (8 : Int32) < nI m + 1 then (8 : Int32) else nI m + 1)) 4 0 ((la + 1) % 8) (hcv s p)) 5 0 ((la + 1) % 8) (hfv s b) = σ4 := by
      rw [e3, keep_ix la l8, keep_sz m (by omega), hσ4]
    unfold f_X2_keep
    rw [lt_eq, lt_eq]
    have r1 : (up σ 3 0 3 (((σ.1 3 0 3) + (1 : Int32)) - ((σ.1 3 0 3) + (1 : Int32)) / (8 : Int32) * (8 : Int32))).1 3 0 4 = nI m := by
      simp (config := { decide := true }) only [up_rd, and_false, if_false]
      exact e4
    rw [r1]
    have r2 : (up (up σ 3 0 3 (((σ.1 3 0 3) + (1 : Int32)) - ((σ.1 3 0 3) + (1 : Int32)) / (8 : Int32) * (8 : Int32))) 3 0 4 (if (8 : Int32) < nI m + 1 then (8 : Int32) else nI m + 1)).1 3 0 3 = nI ((la + 1) % 8) := by
      simp (config := { decide := true }) only [up_rd, and_false, if_false, and_self, if_true]
      rw [e3, keep_ix la l8]
    rw [r2, chk_p g1, lt_eq, g2]
    have r2' : (up (up (up σ 3 0 3 (((σ.1 3 0 3) + (1 : Int32)) - ((σ.1 3 0 3) + (1 : Int32)) / (8 : Int32) * (8 : Int32))) 3 0 4 (if (8 : Int32) < nI m + 1 then (8 : Int32) else nI m + 1)) 4 0 ((la + 1) % 8) (hcv s p)).1 3 0 3 = nI ((la + 1) % 8) := by
      rw [up_rd, if_neg (by omega)]
      exact r2
    rw [r2', chk_p g1, lt_eq, g2, st, r3, e8, ix8, i8, i0]
    by_cases q : s = 1
    · simp only [if_pos q, Option.elim]
    · simp only [if_neg q, Option.elim]
      rw [chk_p hck, lt_eq]
  rw [run]
  -- the entries
  have ent : ∀ σ5 : SS, (∀ r k, r ≠ 6 → σ5.1 r 0 k = σ4.1 r 0 k) → (∀ q, q ≠ (la + 1) % 8 → ∀ k, k < 8 → σ5.1 6 0 (8 * q + k) = σ.1 6 0 (8 * q + k)) → (s ≠ 1 → ∀ k, k < 8 → σ5.1 6 0 (8 * ((la + 1) % 8) + k) = iz (Rn k)) → H7 σ5 (mm m) ((la + 1) % 8) (shf m so s) (shf m pc p) (shn m nb n') (shf m Ro Rn) := by
    intro σ5 k1 k2 k3
    refine ⟨⟨by unfold mm; split <;> omega, l8', by rw [k1 3 3 (by decide), r3], by rw [k1 3 4 (by decide), r4]⟩, fun j hj => ?_⟩
    rw [k1 4 _ (by decide), k1 5 _ (by decide), c4, c5]
    unfold mm at hj ⊢
    unfold shf shn
    by_cases q : m < 8
    · simp only [if_pos q] at hj ⊢
      by_cases qj : j = m
      · subst qj
        have eq : rq (j + 1) ((la + 1) % 8) j = (la + 1) % 8 := by unfold rq; omega
        have e1 : ¬ j = j + 1 := by omega
        rw [eq]
        simp only [if_true, if_neg e1]
        rw [hb]
        exact ⟨trivial, rfl, k3⟩
      · have eq : rq (m + 1) ((la + 1) % 8) j = rq m la j := by unfold rq; omega
        have ne : ¬ rq m la j = (la + 1) % 8 := by unfold rq; omega
        have e1 : ¬ j = m + 1 := by omega
        obtain ⟨x1, x2, x3⟩ := hE j (by omega)
        rw [eq]
        simp only [if_neg ne, if_neg qj, if_neg e1]
        exact ⟨x1, x2, fun z k hk => by rw [k2 _ ne k hk]; exact x3 z k hk⟩
    · have hm8 : m = 8 := by omega
      subst hm8
      simp only [if_neg q] at hj ⊢
      by_cases qj : j = 7
      · subst qj
        have eq : rq 8 ((la + 1) % 8) 7 = (la + 1) % 8 := by unfold rq; omega
        have e1 : ¬ (7 : Nat) = 8 := by omega
        rw [eq]
        simp only [if_true, if_neg e1]
        rw [hb]
        exact ⟨trivial, rfl, k3⟩
      · have eq : rq 8 ((la + 1) % 8) j = rq 8 la (j + 1) := by unfold rq; omega
        have ne : ¬ rq 8 la (j + 1) = (la + 1) % 8 := by unfold rq; omega
        have e1 : ¬ j = 8 := by omega
        obtain ⟨x1, x2, x3⟩ := hE (j + 1) (by omega)
        rw [eq]
        simp only [if_neg ne, if_neg qj, if_neg e1]
        exact ⟨x1, x2, fun z k hk => by rw [k2 _ ne k hk]; exact x3 z k hk⟩
  by_cases q : s = 1
  · simp only [if_pos q, Option.elim]
    exact ⟨σ4, rfl, ent σ4 (fun _ _ _ => rfl) (fun qq _ k _ => by rw [← hσ4]; simp (config := { decide := true }) only [up_rd, false_and, if_false]) (fun z => absurd q z), f4⟩
  · simp only [if_neg q, Option.elim]
    have c6 : ∀ x, (cpy σ4 18 p 0 6 0 (8 * ((la + 1) % 8)) 8).1 6 0 x = va_cpy (σ4.1 18 p) (σ4.1 6 0) 0 (8 * ((la + 1) % 8)) 8 x := fun x => by
      rw [cpy_rd, if_pos ⟨rfl, rfl⟩]
    refine ⟨_, rfl, ent _ (fun r k hr => ?_) (fun qq hq k hk => ?_) (fun _ k hk => ?_), f4.tr ⟨fun r i k hr => ?_, rfl⟩⟩
    · rw [cpy_rd, if_neg (fun z => hr z.1)]
    · rw [c6, pk_cpy_out (by omega), ← hσ4]
      simp (config := { decide := true }) only [up_rd, false_and, if_false]
    · rw [c6, pk_cpy_in (by omega) (by omega), show 0 + (8 * ((la + 1) % 8) + k - 8 * ((la + 1) % 8)) = k by omega, f4.1 18 p k (by unfold PH7; omega)]
      exact hR q k hk
    · rw [cpy_rd, if_neg (fun z => hr (by unfold PH7; omega))]
/-! the model's rows -/
theorem k11_loop {σ0 : SS} {v1 v2 : Int32} : ∀ (s t fuel : Nat) (σ : SS), t + s = 7 → s < fuel → (∀ r, r = 64 ∨ r = 65 → ∀ j, σ.1 r 0 j = if j < t then σ0.1 r 0 (j + 1) else σ0.1 r 0 j) → ∃ σ', f_X8_keep_11 fuel v1 v2 (nI (t + 1)) σ = f_X8_keep_51 v1 v2 σ' ∧ (∀ r, r = 64 ∨ r = 65 → ∀ j, σ'.1 r 0 j = if j < 7 then σ0.1 r 0 (j + 1) else σ0.1 r 0 j) ∧ fri (fun r _ _ => r = 64 ∨ r = 65) σ σ' := by
  intro s
  induction s with
  | zero =>
    intro t fuel σ ht hf h
    obtain ⟨f, rfl⟩ : ∃ f, fuel = f + 1 := ⟨fuel - 1, by omega⟩
    have : t = 7 := by omega
    subst this
    rw [f_X8_keep_11, if_pos (by decide)]
    exact ⟨σ, rfl, h, fri.rf _ _⟩
  | succ s ih =>
    intro t fuel σ ht hf h
    obtain ⟨f, rfl⟩ : ∃ f, fuel = f + 1 := ⟨fuel - 1, by omega⟩
    obtain ⟨g1, g2⟩ := n8 (show t + 1 < 8 by omega)
    obtain ⟨g3, g4⟩ := n8 (show t < 8 by omega)
    have f1 : fri (fun r _ _ => r = 64 ∨ r = 65) σ (up (up σ 64 0 t (σ.1 64 0 (t + 1))) 65 0 t (σ.1 65 0 (t + 1))) := by
      refine fri.up (fri.up (fri.rf _ _) ?_) ?_ <;> omega
    obtain ⟨σ', q1, q2, q3⟩ := ih (t + 1) f (up (up σ 64 0 t (σ.1 64 0 (t + 1))) 65 0 t (σ.1 65 0 (t + 1))) (by omega) (by omega) (fun r hr j => by
      have e1 := h r hr j
      have e2 := h r hr (t + 1)
      rw [if_neg (by omega)] at e2
      by_cases q : j = t
      · subst q
        rw [if_pos (by omega), ← e2]
        rcases hr with rfl | rfl <;> simp (config := { decide := true }) only [up_rd, and_self, if_true, false_and, if_false]
      · have e3 : (if j < t + 1 then σ0.1 r 0 (j + 1) else σ0.1 r 0 j) = σ.1 r 0 j := by
          rw [e1]
          by_cases q2 : j < t
          · rw [if_pos q2, if_pos (by omega)]
          · rw [if_neg q2, if_neg (by omega)]
        rw [e3]
        rcases hr with rfl | rfl <;> simp (config := { decide := true }) only [up_rd, q, and_false, false_and, if_false])
    refine ⟨σ', ?_, q2, f1.tr q3⟩
    rw [← q1, f_X8_keep_11, if_neg (le8 (show t + 1 < 8 by omega))]
    simp (config := { decide := true }) only [lt_, up_rd, false_and, if_false, nI_pred, g2, g4, chk_p g1, chk_p g3, nI_1]
theorem k54_loop {σ0 : SS} {v1 v2 : Int32} : ∀ (s t fuel : Nat) (σ : SS), t + s = 56 → s < fuel → (∀ j, σ.1 66 0 j = if j < t then σ0.1 66 0 (j + 8) else σ0.1 66 0 j) → ∃ σ', f_X8_keep_54 fuel v1 v2 (nI (t + 8)) σ = f_X8_keep_81 v1 v2 σ' ∧ (∀ j, σ'.1 66 0 j = if j < 56 then σ0.1 66 0 (j + 8) else σ0.1 66 0 j) ∧ fri (fun r _ _ => r = 66) σ σ' := by
  intro s
  induction s with
  | zero =>
    intro t fuel σ ht hf h
    obtain ⟨f, rfl⟩ : ∃ f, fuel = f + 1 := ⟨fuel - 1, by omega⟩
    have : t = 56 := by omega
    subst this
    rw [f_X8_keep_54, if_pos (by decide)]
    exact ⟨σ, rfl, h, fri.rf _ _⟩
  | succ s ih =>
    intro t fuel σ ht hf h
    obtain ⟨f, rfl⟩ : ∃ f, fuel = f + 1 := ⟨fuel - 1, by omega⟩
    have g1 : inr (nI (t + 8)) 64 := nI_in (by omega) (by decide)
    have g2 : ix (nI (t + 8)) = t + 8 := nI_clamp (by omega)
    have e8 : nI (t + 8) - (8 : Int32) = nI t := by
      have := pk_sub (a := t + 8) (b := 8) (by omega)
      rw [Nat.add_sub_cancel] at this
      exact this
    have g3 : inr (nI t) 64 := nI_in (by omega) (by decide)
    have g4 : ix (nI t) = t := nI_clamp (by omega)
    have f1 : fri (fun r _ _ => r = 66) σ (up σ 66 0 t (σ.1 66 0 (t + 8))) := fri.up (fri.rf _ _) rfl
    obtain ⟨σ', q1, q2, q3⟩ := ih (t + 1) f (up σ 66 0 t (σ.1 66 0 (t + 8))) (by omega) (by omega) (fun j => by
      have e1 := h j
      have e2 := h (t + 8)
      rw [if_neg (by omega)] at e2
      by_cases q : j = t
      · subst q
        rw [if_pos (by omega), ← e2]
        simp only [up_rd, and_self, if_true]
      · rw [up_rd, if_neg (by omega), e1]
        by_cases q2 : j < t
        · rw [if_pos q2, if_pos (by omega)]
        · rw [if_neg q2, if_neg (by omega)])
    refine ⟨σ', ?_, q2, f1.tr q3⟩
    rw [show t + 1 + 8 = t + 8 + 1 by omega] at q1
    rw [← q1, f_X8_keep_54, if_neg (show ¬ (64 : Int32) ≤ nI (t + 8) from nI_ge (b := 64) (by omega) (by decide)), e8, chk_p g1, chk_p g3, g2, g4, lt_eq, lt_eq, nI_1]
theorem k113_loop {m p : Nat} (hm : m < 8) (hp : p < 60) {E : Nat → Int} : ∀ (s t fuel : Nat) (σ : SS), t + s = 8 → s < fuel → σ.1 25 0 23 = nI m → (∀ k, k < 8 → σ.1 48 0 (8 * p + k) = iz (E k)) → (∀ k, k < t → σ.1 66 0 (8 * m + k) = iz (E k)) → ∃ σ', f_X8_keep_113 fuel (nI p) (nI t) σ = some ((), up σ' 25 0 23 (nI (m + 1))) ∧ (∀ k, k < 8 → σ'.1 66 0 (8 * m + k) = iz (E k)) ∧ fri (fun r _ k => r = 66 ∧ 8 * m ≤ k) σ σ' := by
  intro s
  induction s with
  | zero =>
    intro t fuel σ ht hf h23 h48 h66
    obtain ⟨f, rfl⟩ : ∃ f, fuel = f + 1 := ⟨fuel - 1, by omega⟩
    have : t = 8 := by omega
    subst this
    rw [f_X8_keep_113, if_pos (by decide), f_X8_keep_150, h23, nI_1, lt_eq]
    exact ⟨σ, rfl, h66, fri.rf _ _⟩
  | succ s ih =>
    intro t fuel σ ht hf h23 h48 h66
    obtain ⟨f, rfl⟩ : ∃ f, fuel = f + 1 := ⟨fuel - 1, by omega⟩
    have h8 : t < 8 := by omega
    obtain ⟨n1, n2, n3⟩ := n480 hp h8
    have e64 : (8 : Int32) * nI m + nI t = nI (8 * m + t) := by
      show nI 8 * nI m + nI t = _
      rw [pk_mul, nI_add]
    have g1 : inr (nI (8 * m + t)) 64 := nI_in (by omega) (by decide)
    have g2 : ix (nI (8 * m + t)) = 8 * m + t := nI_clamp (by omega)
    have f1 : fri (fun r _ k => r = 66 ∧ 8 * m ≤ k) σ (up σ 66 0 (8 * m + t) (iz (E t))) := fri.up (fri.rf _ _) ⟨rfl, by omega⟩
    obtain ⟨σ', q1, q2, q3⟩ := ih (t + 1) f (up σ 66 0 (8 * m + t) (iz (E t))) (by omega) (by omega) (by rw [up_rd, if_neg (by omega)]; exact h23) (fun k hk => by rw [up_rd, if_neg (by omega)]; exact h48 k hk) (fun k hk => by
      by_cases q : k = t
      · rw [q]
        simp only [up_rd, and_self, if_true]
      · rw [up_rd, if_neg (by omega)]
        exact h66 k (by omega))
    refine ⟨σ', ?_, q2, f1.tr q3⟩
    rw [← q1, f_X8_keep_113, if_neg (le8 h8), n1, chk_p n2, h23, e64, chk_p g1, n3, g2, h48 t h8, lt_eq, lt_eq, nI_1]
def PH8 (r _i k : Nat) : Prop := (64 ≤ r ∧ r ≤ 66) ∨ (r = 25 ∧ k = 23)
/-- one more entry, with room for it -/
theorem keep91 {σ : SS} {m : Nat} (hm : m < 8) {so pc : Nat → Nat} {Ro : Nat → Nat → Int} (h : H8 σ m so pc Ro) {s p : Nat} (hp : p < 60) {Rn : Nat → Int} (hE : ∃ E : Nat → Int, (∀ k, k < 8 → σ.1 48 0 (8 * p + k) = iz (E k)) ∧ (s ≠ 1 → ∀ k, k < 8 → E k = Ez Rn k)) : ∃ σ', f_X8_keep_91 (nI s) (nI p) σ = some ((), σ') ∧ σ'.1 25 0 23 = nI (m + 1) ∧ (∀ j, j < m → σ'.1 64 0 j = nI (so j) ∧ σ'.1 65 0 j = nI (pc j) ∧ (so j ≠ 1 → ∀ k, k < 8 → σ'.1 66 0 (8 * j + k) = iz (Ez (Ro j) k))) ∧ (σ'.1 64 0 m = nI s ∧ σ'.1 65 0 m = nI p ∧ (s ≠ 1 → ∀ k, k < 8 → σ'.1 66 0 (8 * m + k) = iz (Ez Rn k))) ∧ fri PH8 σ σ' := by
  obtain ⟨E, h48, hEz⟩ := hE
  obtain ⟨g1, g2⟩ := n8 hm
  have f1 : fri PH8 σ (up (up σ 64 0 m (nI s)) 65 0 m (nI p)) := by
    refine fri.up (fri.up (fri.rf _ _) ?_) ?_ <;> (unfold PH8; omega)
  have e64 : ∀ j, (up (up σ 64 0 m (nI s)) 65 0 m (nI p)).1 64 0 j = if j = m then nI s else σ.1 64 0 j := by
    intro j
    simp (config := { decide := true }) only [up_rd, false_and, true_and, if_false]
  have e65 : ∀ j, (up (up σ 64 0 m (nI s)) 65 0 m (nI p)).1 65 0 j = if j = m then nI p else σ.1 65 0 j := by
    intro j
    simp (config := { decide := true }) only [up_rd, false_and, true_and, if_false]
  have run : f_X8_keep_91 (nI s) (nI p) σ = f_X8_keep_113 FU (nI p) (nI 0) (up (up σ 64 0 m (nI s)) 65 0 m (nI p)) := by
    rw [f_X8_keep_91, h.1, chk_p g1, g2, lt_eq]
    rw [show (up σ 64 0 m (nI s)).1 25 0 23 = nI m from by rw [up_rd, if_neg (by omega)]; exact h.1, chk_p g1, g2, lt_eq, nI_0]
  rw [run]
  obtain ⟨σ1, q1, q2, q3⟩ := k113_loop hm hp (E := E) 8 0 FU (up (up σ 64 0 m (nI s)) 65 0 m (nI p)) rfl (by show 8 < 5000; omega) (by rw [up_rd, if_neg (by omega), up_rd, if_neg (by omega)]; exact h.1) (fun k hk => by rw [f1.1 48 0 _ (by unfold PH8; omega)]; exact h48 k hk) (fun k hk => absurd hk (Nat.not_lt_zero _))
  have f2 : fri PH8 σ (up σ1 25 0 23 (nI (m + 1))) := fri.up (f1.tr (q3.mono (fun r i k z => by unfold PH8; omega))) (by unfold PH8; omega)
  refine ⟨up σ1 25 0 23 (nI (m + 1)), q1, by simp only [up_rd, and_self, if_true], fun j hj => ?_, ⟨?_, ?_, fun z k hk => ?_⟩, f2⟩
  · obtain ⟨a1, a2, a3⟩ := h.2 j hj
    refine ⟨?_, ?_, fun z k hk => ?_⟩
    · rw [up_rd, if_neg (by omega), q3.1 64 0 j (by omega), e64, if_neg (by omega)]; exact a1
    · rw [up_rd, if_neg (by omega), q3.1 65 0 j (by omega), e65, if_neg (by omega)]; exact a2
    · rw [up_rd, if_neg (by omega), q3.1 66 0 _ (by omega)]
      have : (up (up σ 64 0 m (nI s)) 65 0 m (nI p)).1 66 0 (8 * j + k) = σ.1 66 0 (8 * j + k) := by
        simp (config := { decide := true }) only [up_rd, false_and, if_false]
      rw [this]
      exact a3 z k hk
  · rw [up_rd, if_neg (by omega), q3.1 64 0 m (by omega), e64, if_pos rfl]
  · rw [up_rd, if_neg (by omega), q3.1 65 0 m (by omega), e65, if_pos rfl]
  · rw [up_rd, if_neg (by omega), q2 k hk, hEz z k hk]
theorem p_keep8 {σ : SS} {m : Nat} (hm : m ≤ 8) {so pc : Nat → Nat} {Ro : Nat → Nat → Int} (h : H8 σ m so pc Ro) {s p : Nat} (hp : p < 60) {Rn : Nat → Int} (hE : ∃ E : Nat → Int, (∀ k, k < 8 → σ.1 48 0 (8 * p + k) = iz (E k)) ∧ (s ≠ 1 → ∀ k, k < 8 → E k = Ez Rn k)) : ∃ σ', f_X8_keep (nI s) (nI p) σ = some ((), σ') ∧ H8 σ' (mm m) (shf m so s) (shf m pc p) (shf m Ro Rn) ∧ fri PH8 σ σ' := by
  unfold f_X8_keep mm shf
  by_cases q : m < 8
  · rw [h.1, if_neg (show ¬ nI m = (8 : Int32) from fun z => by have := (nI_eq (a := m) (b := 8) (by omega) (by decide)).mp z; omega)]
    obtain ⟨σ', q1, q2, q3, q4, q5⟩ := keep91 q h (s := s) hp hE
    simp only [if_pos q]
    refine ⟨σ', q1, ⟨q2, fun j hj => ?_⟩, q5⟩
    by_cases qj : j = m
    · subst qj
      simp only [if_true]
      exact q4
    · simp only [if_neg qj]
      exact q3 j (by omega)
  · have hm8 : m = 8 := by omega
    subst hm8
    obtain ⟨h1, h2⟩ := h
    rw [h1, if_pos (by decide)]
    obtain ⟨σ1, a1, a2, a3⟩ := k11_loop (σ0 := σ) (v1 := nI s) (v2 := nI p) 7 0 FU σ rfl (by show 7 < 5000; omega) (fun r _ j => by rw [if_neg (by omega)])
    obtain ⟨σ2, b1, b2, b3⟩ := k54_loop (σ0 := σ1) (v1 := nI s) (v2 := nI p) 56 0 FU σ1 rfl (by show 56 < 5000; omega) (fun j => by rw [if_neg (by omega)])
    have e1 : f_X8_keep_11 FU (nI s) (nI p) 1 σ = f_X8_keep_51 (nI s) (nI p) σ1 := a1
    have e2 : f_X8_keep_51 (nI s) (nI p) σ1 = f_X8_keep_81 (nI s) (nI p) σ2 := by
      rw [f_X8_keep_51]
      exact b1
    have f2 : fri PH8 σ σ2 := (a3.mono (fun r i k z => by unfold PH8; omega)).tr (b3.mono (fun r i k z => by unfold PH8; omega))
    have e23 : σ2.1 25 0 23 = nI 8 := by rw [b3.1 25 0 23 (by omega), a3.1 25 0 23 (by omega)]; exact h1
    have f3 : fri PH8 σ (up σ2 25 0 23 (nI 7)) := fri.up f2 (by unfold PH8; omega)
    have e3 : f_X8_keep_81 (nI s) (nI p) σ2 = f_X8_keep_91 (nI s) (nI p) (up σ2 25 0 23 (nI 7)) := by
      rw [f_X8_keep_81, e23, lt_eq, nI_pred 7]
    have H7' : H8 (up σ2 25 0 23 (nI 7)) 7 (fun j => so (j + 1)) (fun j => pc (j + 1)) (fun j => Ro (j + 1)) := by
      refine ⟨by simp only [up_rd, and_self, if_true], fun j hj => ?_⟩
      obtain ⟨x1, x2, x3⟩ := h2 (j + 1) (by omega)
      refine ⟨?_, ?_, fun z k hk => ?_⟩
      · rw [up_rd, if_neg (by omega), b3.1 64 0 j (by omega), a2 64 (by omega), if_pos (by omega)]; exact x1
      · rw [up_rd, if_neg (by omega), b3.1 65 0 j (by omega), a2 65 (by omega), if_pos (by omega)]; exact x2
      · rw [up_rd, if_neg (by omega), b2, if_pos (by omega), a3.1 66 0 _ (by omega), show 8 * j + k + 8 = 8 * (j + 1) + k by omega]
        exact x3 z k hk
    obtain ⟨E, h48, hEz⟩ := hE
    obtain ⟨σ', q1, q2, q3, q4, q5⟩ := keep91 (by decide) H7' (s := s) hp (Rn := Rn) ⟨E, fun k hk => by rw [f3.1 48 0 _ (by unfold PH8; omega)]; exact h48 k hk, hEz⟩
    rw [e1, e2, e3]
    simp only [if_neg q]
    refine ⟨σ', q1, ⟨q2, fun j hj => ?_⟩, f3.tr q5⟩
    by_cases qj : j = 7
    · subst qj
      simp only [if_true]
      exact q4
    · simp only [if_neg qj]
      exact q3 j (by omega)
