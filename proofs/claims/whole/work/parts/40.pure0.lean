/-! ===== PURE PART: numbers, reads ===== -/
abbrev iz (z : Int) : Int32 := Int32.ofInt z
theorem iz_add (a b : Int) : iz a + iz b = iz (a + b) := (Int32.ofInt_add a b).symm
theorem iz_sub (a b : Int) : iz a - iz b = iz (a - b) := (Int32.ofInt_sub a b).symm
theorem iz_mul (a b : Int) : iz a * iz b = iz (a * b) := (Int32.ofInt_mul a b).symm
theorem iz_neg (a : Int) : -iz a = iz (-a) := (Int32.ofInt_neg a).symm
def bd (z : Int) : Prop := -2 ^ 31 ≤ z ∧ z < 2 ^ 31
theorem iz_toInt {z : Int} (h : bd z) : (iz z).toInt = z := Int32.toInt_ofInt_of_le h.1 h.2
theorem iz_lt {a b : Int} (ha : bd a) (hb : bd b) : iz a < iz b ↔ a < b := by rw [Int32.lt_iff_toInt_lt, iz_toInt ha, iz_toInt hb]
theorem iz_le {a b : Int} (ha : bd a) (hb : bd b) : iz a ≤ iz b ↔ a ≤ b := by rw [Int32.le_iff_toInt_le, iz_toInt ha, iz_toInt hb]
theorem iz_eq {a b : Int} (ha : bd a) (hb : bd b) : iz a = iz b ↔ a = b := by
  constructor
  · intro h
    rw [← iz_toInt ha, h, iz_toInt hb]
  · intro h
    rw [h]
theorem iz_of (x : Int32) : ∃ z, bd z ∧ x = iz z := ⟨x.toInt, ⟨by have := Int32.le_toInt x; exact this, by have := Int32.toInt_lt x; exact this⟩, (Int32.ofInt_toInt x).symm⟩
theorem iz_nI (n : Nat) : nI n = iz n := Int32.ofInt_eq_ofNat.symm
theorem iz_ix {z : Int} (h0 : 0 ≤ z) (h : z < 2 ^ 31) : ix (iz z) = z.toNat := by
  show (iz z).toNatClampNeg = _
  exact Int32.toNatClampNeg_ofInt_of_le (by omega) h
theorem iz_inr {z : Int} {n : Nat} (h0 : 0 ≤ z) (hn : z < n) (hs : n < 2 ^ 31) : inr (iz z) n := by
  have hb : bd z := ⟨by omega, by omega⟩
  intro h
  rcases h with h | h
  · have := (iz_lt hb (show bd 0 from ⟨by decide, by decide⟩)).mp h
    omega
  · have e : (iz z).toNatClampNeg = z.toNat := iz_ix h0 (by omega)
    rw [e] at h
    omega
theorem up_rd (σ : SS) (r i k : Nat) (v : Int32) (r' i' k' : Nat) : (up σ r i k v).1 r' i' k' = if r' = r ∧ i' = i ∧ k' = k then v else σ.1 r' i' k' := rfl
theorem up_2 (σ : SS) (r i k : Nat) (v : Int32) : (up σ r i k v).2 = σ.2 := rfl
/-- the class's cells are as they were; the model's -/
def eqC (σ τ : SS) : Prop := (∀ r, r < 25 → τ.1 r = σ.1 r) ∧ τ.2 = σ.2
def eqM (σ τ : SS) : Prop := ∀ r, 25 ≤ r → τ.1 r = σ.1 r
theorem eqC.rf (σ : SS) : eqC σ σ := ⟨fun _ _ => rfl, rfl⟩
theorem eqM.rf (σ : SS) : eqM σ σ := fun _ _ => rfl
theorem eqC.tr {a b c : SS} (h1 : eqC a b) (h2 : eqC b c) : eqC a c := ⟨fun r h => (h2.1 r h).trans (h1.1 r h), h2.2.trans h1.2⟩
theorem eqM.tr {a b c : SS} (h1 : eqM a b) (h2 : eqM b c) : eqM a c := fun r h => (h2 r h).trans (h1 r h)
theorem eqC.up {a b : SS} (h1 : eqC a b) {r i k : Nat} {v : Int32} (hr : 25 ≤ r) : eqC a (up b r i k v) := ⟨fun r' h => by
  rw [← h1.1 r' h]
  funext i' k'
  exact if_neg (fun q => by omega), h1.2⟩
theorem eqM.up {a b : SS} (h1 : eqM a b) {r i k : Nat} {v : Int32} (hr : r < 25) : eqM a (up b r i k v) := fun r' h => by
  rw [← h1 r' h]
  funext i' k'
  exact if_neg (fun q => by omega)
/-- isFrom, in -/
theorem p_isFrom (a b c : Int32) (σ : SS) : f_X7_isFrom a b c σ = some (if b ≤ a ∧ a ≤ c then 1 else 0, σ) := by
  unfold f_X7_isFrom
  by_cases h1 : a < b
  · rw [if_pos h1, if_neg (fun q => by have := Int32.not_le.mpr h1; exact this q.1)]
  · by_cases h2 : c < a
    · rw [if_neg h1, if_pos h2, if_neg (fun q => by have := Int32.not_le.mpr h2; exact this q.2)]
    · rw [if_neg h1, if_neg h2, if_pos ⟨Int32.not_lt.mp h1, Int32.not_lt.mp h2⟩]
