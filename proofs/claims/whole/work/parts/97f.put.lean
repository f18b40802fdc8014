/-! ===== PURE: put() ===== -/
theorem b01_c (q : Bool) : b01 q = 0 ∨ b01 q = 1 := by cases q; exact Or.inl rfl; exact Or.inr rfl
theorem p_put49 {σ : SS} {an : Nat} {m : Nat → Nat} {wh : Nat → Nat → Bool} {it : Nat → Nat → Nat} {wi' : Nat → Nat → Bool} (hn : an ≤ 12) (hI : MI8 σ an m wh it) {x v : Nat} {q : Bool} (hx : x < an) (hm : m x < 20) (hall : ∀ a, a < an → m a ≤ 20) (h' : GR an (mN m x) (whN m wh x q) (itN m it x v) wi') : ∃ σ', fri (fun r i k => P85 r i k ∨ (r = 82 ∧ k = x) ∨ ((r = 83 ∨ r = 84) ∧ k = 20 * x + m x)) σ σ' ∧ (((∀ a, a < an → Wc (mN m x) (whN m wh x q) (itN m it x v) a ≤ 500) ∧ f_X8_put_49 (nI x) (nI v) (b01 q) σ = some (nI (m x + 1), σ') ∧ MI8 σ' an (mN m x) (whN m wh x q) (itN m it x v)) ∨ ((∃ a, a < an ∧ 500 < Wc (mN m x) (whN m wh x q) (itN m it x v) a) ∧ f_X8_put_49 (nI x) (nI v) (b01 q) σ = some (-3, σ') ∧ σ'.1 82 0 x = nI (m x))) := by
  obtain ⟨g1, g2, -, -⟩ := n12 (show x < 12 by omega)
  obtain ⟨n1, n2, n3⟩ := n240 (show x < 12 by omega) hm
  obtain ⟨e82, hit⟩ := hI.2 x hx
  generalize hσ5 : up (up (up σ 83 0 (20 * x + m x) (nI v)) 84 0 (20 * x + m x) (b01 q)) 82 0 x (nI (m x + 1)) = σ5
  have f5 : fri (fun r i k => P85 r i k ∨ (r = 82 ∧ k = x) ∨ ((r = 83 ∨ r = 84) ∧ k = 20 * x + m x)) σ σ5 := by
    rw [← hσ5]
    refine fri.up (fri.up (fri.up (fri.rf _ _) ?_) ?_) ?_
    · exact Or.inr (Or.inr ⟨Or.inl rfl, rfl⟩)
    · exact Or.inr (Or.inr ⟨Or.inr rfl, rfl⟩)
    · exact Or.inr (Or.inl ⟨rfl, rfl⟩)
  have c5 : σ5.1 82 0 x = nI (m x + 1) ∧ σ5.1 83 0 (20 * x + m x) = nI v ∧ σ5.1 84 0 (20 * x + m x) = b01 q := by
    rw [← hσ5]
    refine ⟨?_, ?_, ?_⟩ <;> simp (config := { decide := true }) only [up_rd, and_self, if_true, false_and, if_false]
  have hI5 : MI8 σ5 an (mN m x) (whN m wh x q) (itN m it x v) := by
    refine ⟨by rw [f5.1 25 0 41 (by unfold P85; omega)]; exact hI.1, fun a ha => ?_⟩
    by_cases za : a = x
    · subst za
      have e : mN m a a = m a + 1 := if_pos rfl
      rw [e]
      refine ⟨c5.1, fun i hi => ?_⟩
      by_cases zi : i = m a
      · rw [zi]
        have e1 : whN m wh a q a (m a) = q := if_pos ⟨rfl, rfl⟩
        have e2 : itN m it a v a (m a) = v := if_pos ⟨rfl, rfl⟩
        rw [e1, e2]
        exact c5.2
      · rw [whN_o (fun z => zi z.2), itN_o (fun z => zi z.2), f5.1 83 0 _ (by unfold P85; omega), f5.1 84 0 _ (by unfold P85; omega)]
        exact hit i (by omega)
    · have e : mN m x a = m a := if_neg za
      rw [e]
      have ma := hall a ha
      refine ⟨by rw [f5.1 82 0 a (by unfold P85; omega)]; exact (hI.2 a ha).1, fun i hi => ?_⟩
      rw [whN_o (fun z => za z.1), itN_o (fun z => za z.1), f5.1 83 0 _ (by unfold P85; omega), f5.1 84 0 _ (by unfold P85; omega)]
      exact (hI.2 a ha).2 i hi
  obtain ⟨σ6, vm, w1, w2, ⟨w3, w4⟩, w5⟩ := p_countWalks h' hn hI5
  have r82 : (up (up σ 83 0 (20 * x + m x) (nI v)) 84 0 (20 * x + m x) (b01 q)).1 82 0 x = nI (m x) := by
    rw [up_rd, if_neg (by omega), up_rd, if_neg (by omega)]; exact e82
  have ne20 : ¬ nI (m x) = (20 : Int32) := fun z => by have := (nI_eq (a := m x) (b := 20) (by omega) (by decide)).mp z; omega
  have hc : nI vm ≤ (500 : Int32) ↔ vm ≤ 500 := nI_leI (b := 500) (by omega) (by decide)
  have e82' : σ6.1 82 0 x = nI (m x + 1) := by rw [w5.1 82 0 x (by unfold P85; omega)]; exact c5.1
  have run : f_X8_put_49 (nI x) (nI v) (b01 q) σ = (if vm ≤ 500 then some (nI (m x + 1), σ6) else some (-3, up σ6 82 0 x (nI (m x)))) := by
    rw [f_X8_put_49, chk_p g1, g2, e82, lt_eq, if_neg ne20, n1, chk_p n2, n3, lt_eq, chk_p (b01_c q), chk_p n2, lt_eq, chk_p g1, chk_p g1, r82, nI_1, lt_eq, hσ5, w1, cal_some]
    by_cases z : vm ≤ 500
    · rw [if_pos (hc.mpr z), if_pos z]
    · rw [if_neg (fun y => z (hc.mp y)), if_neg z, chk_p g1, chk_p g1, e82', nI_pred, lt_eq]
  have f6 : fri (fun r i k => P85 r i k ∨ (r = 82 ∧ k = x) ∨ ((r = 83 ∨ r = 84) ∧ k = 20 * x + m x)) σ σ6 := f5.tr (w5.mono (fun _ _ _ z => Or.inl z))
  by_cases z : vm ≤ 500
  · rw [if_pos z] at run
    exact ⟨σ6, f6, Or.inl ⟨w4.mp z, run, hI5.fr w5 (by intro r k; unfold P85; omega)⟩⟩
  · rw [if_neg z] at run
    refine ⟨_, fri.up f6 (Or.inr (Or.inl ⟨rfl, rfl⟩)), Or.inr ⟨?_, run, by simp only [up_rd, and_self, if_true]⟩⟩
    refine Classical.byContradiction (fun hne => z (w4.mpr (fun a ha => ?_)))
    exact Classical.byContradiction (fun h2 => hne ⟨a, ha, by omega⟩)
/-- all the places that put() may change -/
def PPu (r i k : Nat) : Prop := PAs r i k ∨ r = 15 ∨ r = 85 ∨ r = 86
/-- whatever stands in an assembly is there -/
def AE (n : Nat) (ex : Nat → Bool) (an : Nat) (m : Nat → Nat) (wh : Nat → Nat → Bool) (it : Nat → Nat → Nat) : Prop := ∀ a, a < an → ∀ i, i < m a → wh a i = false → it a i < n ∧ ex (it a i) = true
/-- both sides grew alike: the tie again -/
theorem AS.grown {σ σ2 : SS} {an : Nat} {m : Nat → Nat} {wh : Nat → Nat → Bool} {it : Nat → Nat → Nat} {W wv wv' : Nat → Nat} (h : AS σ an m wh it W wv) {x v : Nat} {q : Bool} (hx : x < an) (hm : m x < 20) (hv : v < 60) (h' : GR an (mN m x) (whN m wh x q) (itN m it x v) (wiV wv')) (hAN : AN σ2 an) (hI : MI8 σ2 an (mN m x) (whN m wh x q) (itN m it x v)) (hle : ∀ a, a < an → Wc (mN m x) (whN m wh x q) (itN m it x v) a ≤ 500) (h3 : ∀ b, b < an → σ2.1 22 b 3 = nI (Wc (mN m x) (whN m wh x q) (itN m it x v) b)) (h4 : ∀ b, b < an → σ2.1 22 b 4 = nI (wv' b) ∧ wv' b < 4096) (hn2 : σ2.1 22 x 2 = nI (m x + 1) ∧ σ2.1 23 x (m x) = nI v ∧ σ2.1 24 x (m x) = b01 q) (ho : ∀ a i, a < an → ¬ (a = x ∧ i = m x) → σ2.1 23 a i = σ.1 23 a i ∧ σ2.1 24 a i = σ.1 24 a i) (ho2 : ∀ a, a < an → a ≠ x → σ2.1 22 a 2 = σ.1 22 a 2) : AS σ2 an (mN m x) (whN m wh x q) (itN m it x v) (Wc (mN m x) (whN m wh x q) (itN m it x v)) wv' := by
  have hn := h.1.1.1
  have cells : ∀ a, a < an → ∀ i, i < mN m x a → σ2.1 23 a i = nI (itN m it x v a i) ∧ σ2.1 24 a i = b01 (whN m wh x q a i) ∧ itN m it x v a i < 60 := by
    intro a ha i hi
    by_cases z : a = x ∧ i = m x
    · obtain ⟨rfl, rfl⟩ := z
      have e1 : whN m wh a q a (m a) = q := if_pos ⟨rfl, rfl⟩
      have e2 : itN m it a v a (m a) = v := if_pos ⟨rfl, rfl⟩
      rw [e1, e2]
      exact ⟨hn2.2.1, hn2.2.2, hv⟩
    · have him : i < m a := by
        unfold mN at hi
        by_cases za : a = x
        · rw [if_pos za] at hi
          have : i ≠ m x := fun y => z ⟨za, y⟩
          rw [za]; omega
        · rw [if_neg za] at hi; exact hi
      rw [whN_o z, itN_o z, (ho a i ha z).1, (ho a i ha z).2]
      exact (h.2.2 a ha).2.2 i him
  refine ⟨⟨hAN, fun a ha => ?_⟩, h', fun a ha => ⟨⟨h3 a ha, hle a ha, ?_⟩, h4 a ha, cells a ha⟩⟩
  · refine ⟨(h'.1 a ha).1, ?_, (hI.2 a ha).1, fun i hi => ?_⟩
    · by_cases za : a = x
      · rw [za]
        have e : mN m x x = m x + 1 := if_pos rfl
        rw [e]; exact hn2.1
      · have e : mN m x a = m a := if_neg za
        rw [e, ho2 a ha za]
        exact (h.1.2 a ha).2.1
    · obtain ⟨b1, b2⟩ := (hI.2 a ha).2 i hi
      obtain ⟨c1, c2, -⟩ := cells a ha i hi
      exact ⟨by rw [b1, c1], by rw [b2, c2]⟩
  · have := Wc_eq h' hn ha
    have := hle a ha
    omega
theorem p_isWithin7 {σ : SS} {an : Nat} {m : Nat → Nat} {wh : Nat → Nat → Bool} {it : Nat → Nat → Nat} {W wv : Nat → Nat} (hA : AN σ an) {a b : Nat} (ha : a < an) (hb : b < an) (e4 : σ.1 22 a 4 = nI (wv a)) (hv : wv a < 4096) : f_X0_isWithin (nI b) (nI a) σ = some (b01 (wiV wv a b), σ) := by
  have hn := hA.1
  obtain ⟨r1, r2, r3⟩ := row_at hA ha
  have := bit_at hv (show b < 12 by omega)
  rw [f_X0_isWithin, chk_p r1, r3, lt_eq, oel_s, e4, this]
  unfold wiV
  cases (wv a).testBit b <;> rfl
/-- refused by both sides: nothing but scratch has changed -/
theorem put_full {σ σ1 σ2 : SS} {an : Nat} {m : Nat → Nat} {wh : Nat → Nat → Bool} {it : Nat → Nat → Nat} {W wv : Nat → Nat} (h : AS σ an m wh it W wv) (f1 : fri P15 σ σ1) {x : Nat} (hx : x < an) (hmx : m x < 20) (f2 : fri (fun r i k => P86 r i k ∨ P85 r i k ∨ (r = 82 ∧ k = x) ∨ ((r = 83 ∨ r = 84) ∧ k = 20 * x + m x)) σ1 σ2) (e82 : σ2.1 82 0 x = nI (m x)) : AS σ2 an m wh it W wv := by
  have h1 : AS σ1 an m wh it W wv := h.fr f1.p (by intro r i k; unfold PAs P15; omega)
  obtain ⟨⟨a1, a2, a3, a4⟩, b⟩ := h1.1
  refine ⟨⟨⟨a1, ?_, ?_, by rw [f2.2]; exact a4⟩, fun a ha => ?_⟩, h1.2.1, fun a ha => ?_⟩
  · rw [f2.1 12 0 1 (by unfold P85 P86; omega)]; exact a2
  · rw [f2.1 25 0 41 (by unfold P85 P86; omega)]; exact a3
  · obtain ⟨b1, b2, b3, b4⟩ := b a ha
    refine ⟨b1, by rw [f2.1 22 a 2 (by unfold P85 P86; omega)]; exact b2, ?_, fun i hi => ?_⟩
    · by_cases za : a = x
      · rw [za]; exact e82
      · rw [f2.1 82 0 a (by unfold P85 P86; omega)]; exact b3
    · have ne : ¬ (20 * a + i = 20 * x + m x) := by
        intro z
        by_cases za : a = x
        · subst za; omega
        · omega
      rw [f2.1 83 0 _ (by unfold P85 P86; omega), f2.1 84 0 _ (by unfold P85 P86; omega), f2.1 23 a i (by unfold P85 P86; omega), f2.1 24 a i (by unfold P85 P86; omega)]
      exact b4 i hi
  · obtain ⟨⟨x1, x2, x3⟩, ⟨y1, y2⟩, z⟩ := h1.2.2 a ha
    refine ⟨⟨by rw [f2.1 22 a 3 (by unfold P85 P86; omega)]; exact x1, x2, x3⟩, ⟨by rw [f2.1 22 a 4 (by unfold P85 P86; omega)]; exact y1, y2⟩, fun i hi => ?_⟩
    rw [f2.1 23 a i (by unfold P85 P86; omega), f2.1 24 a i (by unfold P85 P86; omega)]
    exact z i hi
