/-! ===== PURE: rule() ===== -/
/-- nothing but what P names has changed -/
def fr (P : Nat → Nat → Prop) (σ τ : SS) : Prop := (∀ r i k, ¬ P r k → τ.1 r i k = σ.1 r i k) ∧ τ.2 = σ.2
theorem fr.rf (P : Nat → Nat → Prop) (σ : SS) : fr P σ σ := ⟨fun _ _ _ _ => rfl, rfl⟩
theorem fr.tr {P : Nat → Nat → Prop} {a b c : SS} (h1 : fr P a b) (h2 : fr P b c) : fr P a c := ⟨fun r i k h => (h2.1 r i k h).trans (h1.1 r i k h), h2.2.trans h1.2⟩
theorem fr.up {P : Nat → Nat → Prop} {a b : SS} (h1 : fr P a b) {r i k : Nat} {v : Int32} (hp : P r k) : fr P a (up b r i k v) := ⟨fun r' i' k' h => by
  rw [← h1.1 r' i' k' h]
  exact if_neg (fun q => h (by rw [q.1, q.2.2]; exact hp)), h1.2⟩
/-- the rules' places -/
def PR (r k : Nat) : Prop := (7 ≤ r ∧ r ≤ 11) ∨ (76 ≤ r ∧ r ≤ 80) ∨ (r = 25 ∧ k = 35)
theorem in_of {a lo hi : Int32} {m M : Nat} (hm : lo.toInt = m) (hM : hi.toInt = M) (h : lo ≤ a ∧ a ≤ hi) : ∃ j : Nat, m ≤ j ∧ j ≤ M ∧ a = nI j := by
  have h0 : ¬ a < 0 := by
    intro z
    have z1 := Int32.lt_iff_toInt_lt.mp z
    have z2 := Int32.le_iff_toInt_le.mp h.1
    rw [hm] at z2
    have : (0 : Int32).toInt = 0 := by decide
    omega
  obtain ⟨j, h1, h2⟩ := nI_of2 (x := a) (M := hi) (n := M) hM h0 h.2
  refine ⟨j, ?_, h1, h2⟩
  have z2 := Int32.le_iff_toInt_le.mp h.1
  have hMb : M < 2 ^ 31 := by
    have := Int32.toInt_lt hi
    omega
  rw [hm, h2, nI_toInt (by omega)] at z2
  omega
theorem q_rule {σ : SS} {n : Nat} {fa fb fj fp : Nat → Nat} {on : Nat → Bool} (h : RU σ n fa fb fj fp on) (a b c d : Int32) : ∃ r σ1 σ2, f_X7_rule a b c d σ = some (r, σ1) ∧ f_X8_rule a b c d σ1 = some (r, σ2) ∧ (∃ n fa fb fj fp on, RU σ2 n fa fb fj fp on) ∧ fr PR σ σ2 := by
  by_cases hok : okRule a b c d
  · by_cases hn : n = 40
    · subst hn
      exact ⟨-3, σ, σ, p_X7_rule_full hok h.2.1.1, p_X8_rule_full hok h.2.1.2, ⟨_, _, _, _, _, _, h⟩, fr.rf _ _⟩
    · have hn1 := h.1
      have hl : n < 40 := by omega
      have e25 : (rule7 σ n a b c d).1 25 0 35 = nI n := h.2.1.2
      refine ⟨nI n, _, _, p_X7_rule_ok hok hl h.2.1.1, p_X8_rule_ok hok hl e25, ?_, ?_⟩
      · obtain ⟨xa, -, xa2, rfl⟩ := in_of (m := 0) (M := 9) (by decide) (by decide) hok.1
        obtain ⟨xb, -, xb2, rfl⟩ := in_of (m := 0) (M := 9) (by decide) (by decide) hok.2.1
        obtain ⟨xc, xc1, xc2, rfl⟩ := in_of (m := 1) (M := 99) (by decide) (by decide) hok.2.2.1
        obtain ⟨xd, -, xd2, rfl⟩ := in_of (m := 0) (M := 7) (by decide) (by decide) hok.2.2.2
        refine ⟨n + 1, fun j => if j = n then xa else fa j, fun j => if j = n then xb else fb j, fun j => if j = n then xc else fj j, fun j => if j = n then xd else fp j, on, ⟨by omega, by omega⟩, ⟨rfl, rfl⟩, fun j hj => ?_, fun q hq => ?_, ?_⟩
        · by_cases hjn : j = n
          · subst hjn
            simp only [if_true]
            refine ⟨⟨by omega, by omega, by omega, by omega, by omega⟩, ⟨?_, ?_, ?_, ?_⟩, ⟨?_, ?_, ?_, ?_⟩⟩ <;> simp (config := { decide := true }) only [rule8, rule7, up_rd, false_and, true_and, and_true, if_false, if_true, and_self]
          · simp only [if_neg hjn]
            obtain ⟨g1, ⟨b1, b2, b3, b4⟩, ⟨c1, c2, c3, c4⟩⟩ := h.2.2.1 j (by omega)
            refine ⟨g1, ⟨?_, ?_, ?_, ?_⟩, ⟨?_, ?_, ?_, ?_⟩⟩ <;> simp (config := { decide := true }) only [rule8, rule7, up_rd, false_and, true_and, and_true, if_false, if_true, and_self, hjn] <;> assumption
        · have hq2 := h.2.2.2.1 q hq
          refine ⟨?_, ?_⟩
          · rw [← hq2.1]
            simp (config := { decide := true }) only [rule8, rule7, up_rd, false_and, if_false]
          · rw [← hq2.2]
            simp (config := { decide := true }) only [rule8, rule7, up_rd, false_and, true_and, if_false]
        · obtain ⟨z1, z2, z3, z4⟩ := h.2.2.2.2
          have h0 : ¬ 0 = n := by omega
          simp only [if_neg h0]
          exact ⟨z1, z2, z3, z4⟩
      · unfold rule8 rule7
        repeat' (first | refine fr.up ?_ ?_ | exact fr.rf _ _)
        all_goals first | exact fr.rf _ _ | (unfold PR; omega)
  · exact ⟨-1, σ, σ, p_X7_rule_bad hok, p_X8_rule_bad hok, ⟨_, _, _, _, _, _, h⟩, fr.rf _ _⟩
