/-! ===== PURE: hold and stands alike ===== -/
theorem p_hold_out {σ : SS} {n : Nat} {m : Nat → Nat} (h : IT σ n m) {v : Int32} : ∀ (s t fuel : Nat), t + s = n → s < fuel → f_X0_hold_2 fuel v (nI t) σ = some (if anyF (fun a => anyF (spP σ v a) (m a) 0) s t then 1 else 0, σ) ∧ f_X8_stands_2 fuel v (nI t) σ = some (if anyF (fun a => anyF (spP σ v a) (m a) 0) s t then 1 else 0, σ) := by
  obtain ⟨hn, hs7, hs8, hcap⟩ := h.1
  intro s
  induction s with
  | zero =>
    intro t fuel ht hf
    obtain ⟨f, rfl⟩ : ∃ f, fuel = f + 1 := ⟨fuel - 1, by omega⟩
    rw [f_X0_hold_2, f_X8_stands_2, hs7, hs8, if_pos (nI_le (by omega) (by omega)), if_pos (nI_le (by omega) (by omega))]
    exact ⟨rfl, rfl⟩
  | succ s ih =>
    intro t fuel ht hf
    obtain ⟨f, rfl⟩ : ∃ f, fuel = f + 1 := ⟨fuel - 1, by omega⟩
    have hlt : t < n := by omega
    have hm := (h.2 t hlt).1
    obtain ⟨g1, g2, -, -⟩ := n12 (show t < 12 by omega)
    have e7 := p_hold_in (K := f_X0_hold_2 f) (v := v) h hlt (m t) 0 FU (by omega) (by show m t < 5000; omega)
    have e8 := p_stands_in (K := f_X8_stands_2 f) (v := v) h hlt (m t) 0 FU (by omega) (by show m t < 5000; omega)
    obtain ⟨i7, i8⟩ := ih (t + 1) f (by omega) (by omega)
    have key : ∀ X : Option (Int32 × SS), X = some (if anyF (fun a => anyF (spP σ v a) (m a) 0) s (t + 1) then 1 else 0, σ) → (if anyF (spP σ v t) (m t) 0 then some ((1 : Int32), σ) else X) = some (if anyF (fun a => anyF (spP σ v a) (m a) 0) (s + 1) t then 1 else 0, σ) := by
      intro X hX
      rw [show anyF (fun a => anyF (spP σ v a) (m a) 0) (s + 1) t = (anyF (spP σ v t) (m t) 0 || anyF (fun a => anyF (spP σ v a) (m a) 0) s (t + 1)) from rfl]
      cases hu : anyF (spP σ v t) (m t) 0 with
      | true => rfl
      | false =>
        rw [hX, Bool.false_or]
        rfl
    constructor
    · rw [f_X0_hold_2, hs7, if_neg (nI_ge hlt (by omega)), chk_p g1, g2, hcap]
      unfold lt_
      rw [if_pos hlt]
      exact e7.trans (key _ i7)
    · rw [f_X8_stands_2, hs8, if_neg (nI_ge hlt (by omega))]
      exact e8.trans (key _ i8)
/-- whether a piece of that number stands in one -/
def held (σ : SS) (n : Nat) (m : Nat → Nat) (v : Int32) : Bool := anyF (fun a => anyF (spP σ v a) (m a) 0) n 0
theorem p_hold {σ : SS} {n : Nat} {m : Nat → Nat} (h : IT σ n m) (v : Int32) : f_X0_hold v σ = some (if held σ n m v then 1 else 0, σ) ∧ f_X8_stands v σ = some (if held σ n m v then 1 else 0, σ) := by
  have hn := h.1.1
  exact p_hold_out h n 0 FU (by omega) (by show n < 5000; omega)
