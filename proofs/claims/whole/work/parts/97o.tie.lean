/-! ===== PURE: assembly() with all ties; the tie of both sides ===== -/
def PAn (r _i k : Nat) : Prop := (22 ≤ r ∧ r < 25) ∨ (r = 12 ∧ k = 1) ∨ r = 82 ∨ (r = 25 ∧ k = 41)
theorem q_assembly2 {σ : SS} {an : Nat} {m : Nat → Nat} {wh : Nat → Nat → Bool} {it : Nat → Nat → Nat} {W wv : Nat → Nat} (h : AS σ an m wh it W wv) : ∃ r σ1 σ2, f_X7_assembly σ = some (r, σ1) ∧ f_X8_assembly σ1 = some (r, σ2) ∧ (∃ an' m' W' wv', AS σ2 an' m' wh it W' wv' ∧ ∀ n ex, AE n ex an m wh it → AE n ex an' m' wh it) ∧ σ2.2.1 = σ.2.1 ∧ ∀ r i k, ¬ PAn r i k → σ2.1 r i k = σ.1 r i k := by
  obtain ⟨hI, hG, hA⟩ := h
  have hn := hI.1.1
  by_cases e : an = 12
  · subst e
    exact ⟨-3, σ, σ, p_X7_assembly_full hI.1, p_X8_assembly_full hI.1, ⟨12, m, W, wv, ⟨hI, hG, hA⟩, fun _ _ z => z⟩, rfl, fun _ _ _ _ => rfl⟩
  · have hl : an < 12 := by omega
    have e41 : (up (newA σ) 12 0 1 (nI (an + 1))).1 25 0 41 = nI an := hI.1.2.2.1
    have hcap := hI.1.2.2.2
    refine ⟨nI an, _, _, p_X7_assembly_ok hI.1 hl, p_X8_assembly_ok e41 hl, ⟨an + 1, fun a => if a = an then 0 else m a, fun a => if a = an then 0 else W a, fun a => if a = an then 0 else wv a, ⟨⟨⟨by omega, rfl, rfl, ?_⟩, fun a ha => ?_⟩, ⟨fun a ha => ?_, fun a b ha hb => ?_⟩, fun a ha => ?_⟩, fun n ex z a ha i hi hw => ?_⟩, rfl, fun r i k hp => ?_⟩
    · show σ.2.2 + 1 = an + 1
      rw [hcap]
    · by_cases ea : a = an
      · subst ea
        simp only [if_true]
        refine ⟨by omega, ?_, ?_, fun i hi => absurd hi (by omega)⟩
        · simp (config := { decide := true }) only [up_rd, newA_rd, false_and, if_false, hcap, and_self, if_true]
        · simp (config := { decide := true }) only [up_rd, false_and, if_false, true_and, and_self, if_true]
      · simp only [if_neg ea]
        obtain ⟨h1, h2, h3, h4⟩ := hI.2 a (by omega)
        have ec : ¬ a = σ.2.2 := by rw [hcap]; exact ea
        refine ⟨h1, ?_, ?_, fun i hi => ?_⟩
        · rw [← h2]
          simp (config := { decide := true }) only [up_rd, newA_rd, false_and, if_false, ec, and_false]
        · rw [← h3]
          simp (config := { decide := true }) only [up_rd, newA_rd, false_and, if_false, ea, and_false, true_and]
        · obtain ⟨b1, b2⟩ := h4 i hi
          refine ⟨?_, ?_⟩
          · simp (config := { decide := true }) only [up_rd, newA_rd, false_and, if_false, ec, and_false]
            exact b1
          · simp (config := { decide := true }) only [up_rd, newA_rd, false_and, if_false, ec, and_false]
            exact b2
    · by_cases ea : a = an
      · simp only [if_pos ea]
        exact ⟨by omega, fun i hi => absurd hi (by omega)⟩
      · simp only [if_neg ea]
        obtain ⟨g1, g2⟩ := hG.1 a (by omega)
        refine ⟨g1, fun i hi hw => ?_⟩
        obtain ⟨k1, k2, k3⟩ := g2 i hi hw
        unfold wiV at k2 k3 ⊢
        simp only [if_neg ea, if_neg (show ¬ it a i = an by omega)]
        exact ⟨by omega, k2, k3⟩
    · unfold wiV at hb
      by_cases ea : a = an
      · simp only [if_pos ea, Nat.zero_testBit] at hb
        cases hb
      · simp only [if_neg ea] at hb ⊢
        obtain ⟨k1, k2, i, i1, i2, i3⟩ := hG.2 a b (by omega) hb
        have k4 := ((hG.1 a (by omega)).2 i i1 i2).1
        refine ⟨by omega, k2, i, i1, i2, ?_⟩
        unfold wiV at i3 ⊢
        simp only [if_neg (show ¬ it a i = an by omega)]
        exact i3
    · by_cases ea : a = an
      · subst ea
        simp only [if_true]
        refine ⟨⟨?_, by omega, ?_⟩, ⟨?_, by omega⟩, fun i hi => absurd hi (by omega)⟩
        · simp (config := { decide := true }) only [up_rd, newA_rd, false_and, if_false, hcap, and_self, if_true]
        · unfold sW
          simp only [if_true]
          rfl
        · simp (config := { decide := true }) only [up_rd, newA_rd, false_and, if_false, hcap, and_self, if_true]
      · simp only [if_neg ea]
        obtain ⟨⟨x1, x2, x3⟩, ⟨y1, y2⟩, z⟩ := hA a (by omega)
        have ec : ¬ a = σ.2.2 := by rw [hcap]; exact ea
        refine ⟨⟨?_, x2, ?_⟩, ⟨?_, y2⟩, fun i hi => ?_⟩
        · rw [← x1]
          simp (config := { decide := true }) only [up_rd, newA_rd, false_and, if_false, ec, and_false]
        · rw [x3]
          unfold sW
          simp only [if_neg ea]
          refine sumI_cg (fun i hi => ?_)
          by_cases q : wh a i = true
          · have k4 := ((hG.1 a (by omega)).2 i hi q).1
            simp only [if_pos q, if_neg (show ¬ it a i = an by omega)]
          · simp only [if_neg q]
        · rw [← y1]
          simp (config := { decide := true }) only [up_rd, newA_rd, false_and, if_false, ec, and_false]
        · obtain ⟨b1, b2, b3⟩ := z i hi
          refine ⟨?_, ?_, b3⟩
          · rw [← b1]
            simp (config := { decide := true }) only [up_rd, newA_rd, false_and, if_false, ec, and_false]
          · rw [← b2]
            simp (config := { decide := true }) only [up_rd, newA_rd, false_and, if_false, ec, and_false]
    · by_cases ea : a = an
      · simp only [if_pos ea] at hi
        omega
      · simp only [if_neg ea] at hi
        exact z a (by omega) i hi hw
    · rw [up_rd, if_neg (fun z => hp (Or.inr (Or.inr (Or.inr ⟨z.1, z.2.2⟩)))), up_rd, if_neg (fun z => hp (Or.inr (Or.inr (Or.inl z.1)))), up_rd, if_neg (fun z => hp (Or.inr (Or.inl ⟨z.1, z.2.2⟩))), newA_rd, if_neg (fun z => hp (Or.inl z.1))]
theorem anyF_of {P : Nat → Bool} : ∀ m t i, t ≤ i → i < t + m → P i = true → anyF P m t = true := by
  intro m
  induction m with
  | zero => intro t i h1 h2 _; omega
  | succ m ih =>
    intro t i h1 h2 hp
    rw [anyF, Bool.or_eq_true]
    by_cases q : t = i
    · exact Or.inl (by rw [q]; exact hp)
    · exact Or.inr (ih (t + 1) i (by omega) (by omega) hp)
theorem as_held {σ : SS} {an : Nat} {m : Nat → Nat} {wh : Nat → Nat → Bool} {it : Nat → Nat → Nat} {W wv : Nat → Nat} (h : AS σ an m wh it W wv) {a : Nat} (ha : a < an) {i : Nat} (hi : i < m a) (hw : wh a i = false) : held σ an m (nI (it a i)) = true := by
  obtain ⟨c1, c2, -⟩ := (h.2.2 a ha).2.2 i hi
  have hs : spP σ (nI (it a i)) a i = true := by
    unfold spP
    rw [c1, c2, hw, decide_eq_true (show b01 false = 0 from rfl), decide_eq_true rfl]
    rfl
  exact anyF_of (P := fun a' => anyF (spP σ (nI (it a i)) a') (m a') 0) an 0 a (by omega) (by omega) (anyF_of (P := spP σ (nI (it a i)) a) (m a) 0 i (by omega) (by omega) hs)
