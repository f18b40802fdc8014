/-! ===== PURE: pack() ===== -/
/-- the packs' bits are eight -/
def RP (σ : SS) : Prop := ∃ P : Nat, P < 256 ∧ σ.1 7 0 5 = nI P
def bitAt (x : Int32) (q : Nat) : Int32 := (x >>> (nI q &&& 31)) &&& 1
def bOn (P q : Nat) : Nat := if P / 2 ^ q % 2 = 1 then P else P + 2 ^ q
def bOff (P q : Nat) : Nat := if P / 2 ^ q % 2 = 1 then P - 2 ^ q else P
theorem bits_on : ∀ P, P < 256 → ∀ q, q < 8 → (nI P ||| ((1 : Int32) <<< (nI q &&& 31))) = nI (bOn P q) ∧ bOn P q < 256 := by decide +kernel
theorem bits_off : ∀ P, P < 256 → ∀ q, q < 8 → (nI P &&& (((1 : Int32) <<< (nI q &&& 31)) ^^^ (-1 : Int32))) = nI (bOff P q) ∧ bOff P q < 256 := by decide +kernel
theorem bits_on_at : ∀ P, P < 256 → ∀ q, q < 8 → ∀ p, p < 8 → bitAt (nI (bOn P q)) p = if p = q then 1 else bitAt (nI P) p := by decide +kernel
theorem bits_off_at : ∀ P, P < 256 → ∀ q, q < 8 → ∀ p, p < 8 → bitAt (nI (bOff P q)) p = if p = q then 0 else bitAt (nI P) p := by decide +kernel
