/-! ===== PURE: one more stands in an assembly ===== -/
def mN (m : Nat → Nat) (x : Nat) (a : Nat) : Nat := if a = x then m x + 1 else m a
def whN (m : Nat → Nat) (wh : Nat → Nat → Bool) (x : Nat) (q : Bool) (a i : Nat) : Bool := if a = x ∧ i = m x then q else wh a i
def itN (m : Nat → Nat) (it : Nat → Nat → Nat) (x v : Nat) (a i : Nat) : Nat := if a = x ∧ i = m x then v else it a i
theorem whN_o {m : Nat → Nat} {wh : Nat → Nat → Bool} {x : Nat} {q : Bool} {a i : Nat} (h : ¬ (a = x ∧ i = m x)) : whN m wh x q a i = wh a i := if_neg h
theorem itN_o {m : Nat → Nat} {it : Nat → Nat → Nat} {x v a i : Nat} (h : ¬ (a = x ∧ i = m x)) : itN m it x v a i = it a i := if_neg h
theorem GR.tr {an : Nat} {m : Nat → Nat} {wh : Nat → Nat → Bool} {it : Nat → Nat → Nat} {wi : Nat → Nat → Bool} (h : GR an m wh it wi) (hn : an ≤ 12) : ∀ c, c < an → ∀ d, wi c d = true → ∀ e, wi d e = true → wi c e = true := by
  refine h.ind hn (fun c hc ihc d hd e he => ?_)
  obtain ⟨-, -, i, i1, i2, i3⟩ := h.2 c d hc hd
  obtain ⟨g4, g5, g6⟩ := (h.1 c hc).2 i i1 i2
  rcases i3 with i3 | i3
  · rw [i3] at g6; exact g6 e he
  · exact g6 e (ihc i i1 i2 d i3 e he)
theorem GR.piece {an : Nat} {m : Nat → Nat} {wh : Nat → Nat → Bool} {it : Nat → Nat → Nat} {wi : Nat → Nat → Bool} (h : GR an m wh it wi) {x v : Nat} (hm : m x < 20) : GR an (mN m x) (whN m wh x false) (itN m it x v) wi := by
  refine ⟨fun a ha => ⟨?_, fun i hi hw => ?_⟩, fun a b ha hb => ?_⟩
  · have := (h.1 a ha).1
    unfold mN
    split
    · omega
    · exact this
  · by_cases z : a = x ∧ i = m x
    · unfold whN at hw
      rw [if_pos z] at hw
      exact absurd hw (by decide)
    · rw [whN_o z] at hw
      rw [itN_o z]
      refine (h.1 a ha).2 i ?_ hw
      unfold mN at hi
      by_cases za : a = x
      · rw [if_pos za] at hi
        have : i ≠ m x := fun y => z ⟨za, y⟩
        rw [za]; omega
      · rw [if_neg za] at hi; exact hi
  · obtain ⟨h1, h2, i, i1, i2, i3⟩ := h.2 a b ha hb
    have z : ¬ (a = x ∧ i = m x) := fun y => by rw [y.1, y.2] at i1; omega
    refine ⟨h1, h2, i, ?_, by rw [whN_o z]; exact i2, by rw [itN_o z]; exact i3⟩
    unfold mN
    split
    · rename_i y; rw [y] at i1; omega
    · exact i1
theorem GR.asm {an : Nat} {m : Nat → Nat} {wh : Nat → Nat → Bool} {it : Nat → Nat → Nat} {wi wi' : Nat → Nat → Bool} (h : GR an m wh it wi) (hn : an ≤ 12) {x v : Nat} (hx : x < an) (hv : v < an) (hxv : v ≠ x) (hvx : wi v x = false) (hm : m x < 20) (hw' : ∀ a b, a < an → (wi' a b = true ↔ wi a b = true ∨ ((a = x ∨ wi a x = true) ∧ (b = v ∨ wi v b = true)))) : GR an (mN m x) (whN m wh x true) (itN m it x v) wi' := by
  have nvx : ¬ wi v x = true := by rw [hvx]; decide
  refine ⟨fun a ha => ⟨?_, fun i hi hw => ?_⟩, fun a b ha hb => ?_⟩
  · have := (h.1 a ha).1
    unfold mN
    split
    · omega
    · exact this
  · by_cases z : a = x ∧ i = m x
    · have e : itN m it x v a i = v := if_pos z
      rw [e]
      refine ⟨hv, (hw' a v ha).mpr (Or.inr ⟨Or.inl z.1, Or.inl rfl⟩), fun b hb => (hw' a b ha).mpr ?_⟩
      rcases (hw' v b hv).mp hb with y | ⟨y, -⟩
      · exact Or.inr ⟨Or.inl z.1, Or.inr y⟩
      · rcases y with y | y
        · exact absurd y hxv
        · exact absurd y nvx
    · rw [whN_o z] at hw
      rw [itN_o z]
      have him : i < m a := by
        unfold mN at hi
        by_cases za : a = x
        · rw [if_pos za] at hi
          have : i ≠ m x := fun y => z ⟨za, y⟩
          rw [za]; omega
        · rw [if_neg za] at hi; exact hi
      obtain ⟨g1, g2, g3⟩ := (h.1 a ha).2 i him hw
      refine ⟨g1, (hw' a _ ha).mpr (Or.inl g2), fun b hb => (hw' a b ha).mpr ?_⟩
      rcases (hw' _ b g1).mp hb with y | ⟨y1, y2⟩
      · exact Or.inl (g3 b y)
      · refine Or.inr ⟨Or.inr ?_, y2⟩
        rcases y1 with y1 | y1
        · rw [← y1]; exact g2
        · exact g3 x y1
  · rcases (hw' a b ha).mp hb with y | ⟨y1, y2⟩
    · obtain ⟨h1, h2, i, i1, i2, i3⟩ := h.2 a b ha y
      have z : ¬ (a = x ∧ i = m x) := fun y => by rw [y.1, y.2] at i1; omega
      have hi := ((h.1 a ha).2 i i1 i2).1
      refine ⟨h1, h2, i, ?_, by rw [whN_o z]; exact i2, ?_⟩
      · unfold mN
        split
        · rename_i y; rw [y] at i1; omega
        · exact i1
      · rw [itN_o z]
        rcases i3 with i3 | i3
        · exact Or.inl i3
        · exact Or.inr ((hw' _ b hi).mpr (Or.inl i3))
    · have hbn : b < an := by
        rcases y2 with y2 | y2
        · omega
        · exact (h.2 v b hv y2).1
      have hba : b ≠ a := by
        intro e
        subst e
        rcases y1 with y1 | y1
        · subst y1
          rcases y2 with y2 | y2
          · exact hxv y2.symm
          · exact nvx y2
        · rcases y2 with y2 | y2
          · subst y2; exact nvx y1
          · exact nvx (h.tr hn v hv b y2 x y1)
      refine ⟨hbn, hba, ?_⟩
      by_cases za : a = x
      · refine ⟨m x, ?_, ?_, ?_⟩
        · unfold mN; rw [if_pos za]; omega
        · exact if_pos ⟨za, rfl⟩
        · have e : itN m it x v a (m x) = v := if_pos ⟨za, rfl⟩
          rw [e]
          rcases y2 with y2 | y2
          · exact Or.inl y2.symm
          · exact Or.inr ((hw' v b hv).mpr (Or.inl y2))
      · rcases y1 with y1 | y1
        · exact absurd y1 za
        · obtain ⟨-, -, i, i1, i2, i3⟩ := h.2 a x ha y1
          have z : ¬ (a = x ∧ i = m x) := fun y => za y.1
          have hi := ((h.1 a ha).2 i i1 i2).1
          refine ⟨i, ?_, by rw [whN_o z]; exact i2, ?_⟩
          · unfold mN; rw [if_neg za]; exact i1
          · rw [itN_o z]
            exact Or.inr ((hw' _ b hi).mpr (Or.inr ⟨by
              rcases i3 with i3 | i3
              · exact Or.inl i3
              · exact Or.inr i3, y2⟩))
theorem FC.new {an : Nat} {m : Nat → Nat} {wh : Nat → Nat → Bool} {it : Nat → Nat → Nat} {wi wi' : Nat → Nat → Bool} (h : GR an m wh it wi) (hn : an ≤ 12) {x v : Nat} {q : Bool} (h' : GR an (mN m x) (whN m wh x q) (itN m it x v) wi') (hx : x < an) {W : Nat → Nat} (hW : ∀ a, a < an → W a = sW m wh it W a ∧ W a ≤ 500) (hq : q = true → v < an ∧ v ≠ x ∧ wi v x = false) : FC an m wh it W (Wc (mN m x) (whN m wh x q) (itN m it x v)) x (if q = true then W v else 1) := by
  have oth : ∀ a, a < an → a ≠ x → Wc (mN m x) (whN m wh x q) (itN m it x v) a = min 1000000 (sW m wh it (Wc (mN m x) (whN m wh x q) (itN m it x v)) a) := fun a ha hne => by
    rw [Wc_eq h' hn ha]
    congr 1
    unfold sW
    have e : mN m x a = m a := if_neg hne
    rw [e]
    exact sumI_cg (fun i hi => by rw [whN_o (fun z => hne z.1), itN_o (fun z => hne z.1)])
  have L1 : ∀ b, b < an → b ≠ x → wi b x = false → Wc (mN m x) (whN m wh x q) (itN m it x v) b = W b := by
    refine h.ind hn (fun b hb ih hne hbx => ?_)
    obtain ⟨w1, w2⟩ := hW b hb
    rw [oth b hb hne]
    have e : sW m wh it (Wc (mN m x) (whN m wh x q) (itN m it x v)) b = sW m wh it W b := sumI_cg (fun i hi => by
      cases qw : wh b i with
      | false => rfl
      | true =>
        simp only [if_true]
        obtain ⟨g1, g2, g3⟩ := (h.1 b hb).2 i hi qw
        refine ih i hi qw (fun z => ?_) ?_
        · rw [z, hbx] at g2; exact absurd g2 (by decide)
        · cases z : wi (it b i) x with
          | false => rfl
          | true => rw [g3 x z] at hbx; exact absurd hbx (by decide))
    rw [e, ← w1]
    omega
  refine ⟨oth, ?_, ?_⟩
  · rw [Wc_eq h' hn hx]
    congr 1
    unfold sW
    have e : mN m x x = m x + 1 := if_pos rfl
    rw [e]
    show sumI _ (m x) + (if whN m wh x q x (m x) = true then Wc (mN m x) (whN m wh x q) (itN m it x v) (itN m it x v x (m x)) else 1) = _
    have e1 : whN m wh x q x (m x) = q := if_pos ⟨rfl, rfl⟩
    have e2 : itN m it x v x (m x) = v := if_pos ⟨rfl, rfl⟩
    rw [e1, e2]
    have e3 : sumI (fun i => if whN m wh x q x i = true then Wc (mN m x) (whN m wh x q) (itN m it x v) (itN m it x v x i) else 1) (m x) = W x := by
      rw [(hW x hx).1]
      refine sumI_cg (fun i hi => ?_)
      rw [whN_o (fun z => by omega), itN_o (fun z => by omega)]
      cases qw : wh x i with
      | false => rfl
      | true =>
        simp only [if_true]
        obtain ⟨g1, g2, g3⟩ := (h.1 x hx).2 i hi qw
        have n1 : it x i ≠ x := (h.2 x _ hx g2).2.1
        refine L1 _ g1 n1 ?_
        cases z : wi (it x i) x with
        | false => rfl
        | true => exact absurd rfl (h.2 x x hx (g3 x z)).2.1
    rw [e3]
    congr 1
    cases q with
    | false => rfl
    | true =>
      simp only [if_true]
      obtain ⟨v1, v2, v3⟩ := hq rfl
      exact L1 v v1 v2 v3
  · cases q with
    | false => simp
    | true =>
      simp only [if_true]
      exact (hW v (hq rfl).1).2
/-! append -/
theorem app_loop {an : Nat} {W C : Nat → Nat} {v1 v2 v3 : Int32} : ∀ (s t fuel : Nat) (σ : SS), t + s = an → s < fuel → AN σ an → (∀ b, b < an → σ.1 22 b 3 = nI (if b < t then C b else W b) ∧ σ.1 15 0 b = nI (C b - W b) ∧ W b ≤ C b) → ∃ σ', f_X0_append_3 fuel v1 v2 v3 (nI t) σ = f_X0_append_40 v1 v2 v3 σ' ∧ (∀ b, b < an → σ'.1 22 b 3 = nI (C b)) ∧ fri (fun r _ k => r = 22 ∧ k = 3) σ σ' := by
  intro s
  induction s with
  | zero =>
    intro t fuel σ ht hf hA hb
    obtain ⟨f, rfl⟩ : ∃ f, fuel = f + 1 := ⟨fuel - 1, by omega⟩
    have hn := hA.1
    rw [f_X0_append_3, hA.2.1, if_pos (nI_le (by omega) (by omega))]
    refine ⟨σ, rfl, fun b h => ?_, fri.rf _ _⟩
    have := (hb b h).1
    rw [if_pos (by omega)] at this
    exact this
  | succ s ih =>
    intro t fuel σ ht hf hA hb
    obtain ⟨f, rfl⟩ : ∃ f, fuel = f + 1 := ⟨fuel - 1, by omega⟩
    have hn := hA.1
    have htn : t < an := by omega
    obtain ⟨r1, r2, r3⟩ := row_at hA htn
    obtain ⟨h1, h2, h3⟩ := hb t htn
    rw [if_neg (by omega)] at h1
    have f1 : fri (fun r _ k => r = 22 ∧ k = 3) σ (up σ 22 t 3 (nI (C t))) := fri.up (fri.rf _ _) ⟨rfl, rfl⟩
    rw [f_X0_append_3, hA.2.1, if_neg (nI_ge htn (by omega)), chk_p r1, r3, lt_eq, oel_s, chk_p r1, r2, h1, h2, nI_add, show W t + (C t - W t) = C t by omega, lt_eq, lt_eq, nI_1]
    obtain ⟨σ', q1, q2, q3⟩ := ih (t + 1) f (up σ 22 t 3 (nI (C t))) (by omega) (by omega) (hA.fr f1 ⟨by omega, by omega⟩) (fun b h => by
      by_cases z : b = t
      · subst z
        rw [if_pos (by omega), up_rd, if_pos ⟨rfl, rfl, rfl⟩, up_rd, if_neg (by omega)]
        exact ⟨rfl, h2, h3⟩
      · obtain ⟨a1, a2, a3⟩ := hb b h
        have u1 : (up σ 22 t 3 (nI (C t))).1 22 b 3 = σ.1 22 b 3 := by rw [up_rd, if_neg (by omega)]
        have u2 : (up σ 22 t 3 (nI (C t))).1 15 0 b = σ.1 15 0 b := by rw [up_rd, if_neg (by omega)]
        rw [u1, u2, a1]
        refine ⟨?_, a2, a3⟩
        by_cases z2 : b < t
        · rw [if_pos z2, if_pos (by omega)]
        · rw [if_neg z2, if_neg (by omega)])
    exact ⟨σ', q1, q2, f1.tr q3⟩
theorem p_append {σ : SS} {an : Nat} {m W C : Nat → Nat} (hA : AN σ an) {x v : Nat} {q : Bool} (hx : x < an) (hm : m x < 20) (e2 : σ.1 22 x 2 = nI (m x)) (hb : ∀ b, b < an → σ.1 22 b 3 = nI (W b) ∧ σ.1 15 0 b = nI (C b - W b) ∧ W b ≤ C b) : ∃ σ', f_X0_append (nI x) (nI v) (b01 q) σ = some (nI (m x + 1), σ') ∧ (∀ b, b < an → σ'.1 22 b 3 = nI (C b)) ∧ (σ'.1 22 x 2 = nI (m x + 1) ∧ σ'.1 23 x (m x) = nI v ∧ σ'.1 24 x (m x) = b01 q) ∧ fri (fun r i k => (r = 22 ∧ k = 3) ∨ (i = x ∧ ((r = 22 ∧ k = 2) ∨ ((r = 23 ∨ r = 24) ∧ k = m x)))) σ σ' := by
  have hn := hA.1
  obtain ⟨σ1, a1, a2, a3⟩ := app_loop (W := W) (C := C) (v1 := nI x) (v2 := nI v) (v3 := b01 q) an 0 FU σ (by omega) (by show an < 5000; omega) hA (fun b h => by rw [if_neg (by omega)]; exact hb b h)
  rw [nI_0] at a1
  have hA1 : AN σ1 an := hA.fr a3 ⟨by omega, by omega⟩
  obtain ⟨r1, r2, r3⟩ := row_at hA1 hx
  have i20 : inr (nI (m x)) 20 := nI_in (by omega) (by decide)
  have c20 : ix (nI (m x)) = m x := nI_clamp (by omega)
  have e22 : σ1.1 22 x 2 = nI (m x) := by rw [a3.1 22 x 2 (by omega)]; exact e2
  have e22b : (up σ1 23 x (m x) (nI v)).1 22 x 2 = nI (m x) := by rw [up_rd, if_neg (by omega)]; exact e22
  have e22c : (up (up σ1 23 x (m x) (nI v)) 24 x (m x) (b01 q)).1 22 x 2 = nI (m x) := by rw [up_rd, if_neg (by omega)]; exact e22b
  have hq : b01 q = 0 ∨ b01 q = 1 := by cases q; exact Or.inl rfl; exact Or.inr rfl
  refine ⟨up (up (up σ1 23 x (m x) (nI v)) 24 x (m x) (b01 q)) 22 x 2 (nI (m x + 1)), ?_, fun b h => ?_, ⟨?_, ?_, ?_⟩, ?_⟩
  · rw [f_X0_append, a1, f_X0_append_40, chk_p r1, r3, lt_eq, oel_s, e22, chk_p i20, c20, lt_eq, chk_p hq, e22b, chk_p i20, c20, lt_eq, e22c, nI_1, lt_eq]
    congr 2
    rw [up_rd, if_pos ⟨rfl, rfl, rfl⟩]
  · rw [up_rd, if_neg (by omega), up_rd, if_neg (by omega), up_rd, if_neg (by omega)]; exact a2 b h
  · rw [up_rd, if_pos ⟨rfl, rfl, rfl⟩]
  · rw [up_rd, if_neg (by omega), up_rd, if_neg (by omega), up_rd, if_pos ⟨rfl, rfl, rfl⟩]
  · rw [up_rd, if_neg (by omega), up_rd, if_pos ⟨rfl, rfl, rfl⟩]
  · refine fri.up (fri.up (fri.up (a3.mono (fun _ _ _ z => Or.inl z)) ?_) ?_) ?_
    · exact Or.inr ⟨rfl, Or.inr ⟨Or.inl rfl, rfl⟩⟩
    · exact Or.inr ⟨rfl, Or.inr ⟨Or.inr rfl, rfl⟩⟩
    · exact Or.inr ⟨rfl, Or.inl ⟨rfl, rfl⟩⟩
