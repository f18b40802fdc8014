/-! ===== PURE: put(), both sides ===== -/
/-- put: both sides answer alike, the ties hold again -/
def PU (σ : SS) (n : Nat) (ex : Nat → Bool) (an : Nat) (F7 F8 : SS → Option (Int32 × SS)) : Prop := ∃ r σ1 σ2, F7 σ = some (r, σ1) ∧ F8 σ1 = some (r, σ2) ∧ fri (fun r _ _ => r = 15 ∨ (22 ≤ r ∧ r ≤ 24)) σ σ1 ∧ fri PPu σ σ2 ∧ ∃ m wh it W wv, AS σ2 an m wh it W wv ∧ AE n ex an m wh it
theorem PU.same {σ : SS} {n : Nat} {ex : Nat → Bool} {an : Nat} {m : Nat → Nat} {wh : Nat → Nat → Bool} {it : Nat → Nat → Nat} {W wv : Nat → Nat} (h : AS σ an m wh it W wv) (hE : AE n ex an m wh it) {F7 F8 : SS → Option (Int32 × SS)} {r : Int32} (h1 : F7 σ = some (r, σ)) (h2 : F8 σ = some (r, σ)) : PU σ n ex an F7 F8 := ⟨r, σ, σ, h1, h2, fri.rf _ _, fri.rf _ _, m, wh, it, W, wv, h, hE⟩
theorem AS.hW {σ : SS} {an : Nat} {m : Nat → Nat} {wh : Nat → Nat → Bool} {it : Nat → Nat → Nat} {W wv : Nat → Nat} (h : AS σ an m wh it W wv) : ∀ a, a < an → W a = sW m wh it W a ∧ W a ≤ 500 := fun a ha => ⟨(h.2.2 a ha).1.2.2, (h.2.2 a ha).1.2.1⟩
theorem AE.new {n : Nat} {ex : Nat → Bool} {an : Nat} {m : Nat → Nat} {wh : Nat → Nat → Bool} {it : Nat → Nat → Nat} (h : AE n ex an m wh it) {x v : Nat} {q : Bool} (hq : q = false → v < n ∧ ex v = true) : AE n ex an (mN m x) (whN m wh x q) (itN m it x v) := by
  intro a ha i hi hw
  by_cases z : a = x ∧ i = m x
  · have e1 : whN m wh x q a i = q := if_pos z
    have e2 : itN m it x v a i = v := if_pos z
    rw [e1] at hw
    rw [e2]
    exact hq hw
  · rw [whN_o z] at hw
    rw [itN_o z]
    refine h a ha i ?_ hw
    unfold mN at hi
    by_cases za : a = x
    · rw [if_pos za] at hi
      have : i ≠ m x := fun y => z ⟨za, y⟩
      rw [za]; omega
    · rw [if_neg za] at hi; exact hi
/-- the class's join of a piece, the model's put_49 behind it -/
theorem put_piece {σ : SS} {n : Nat} {ex : Nat → Bool} {an : Nat} {m : Nat → Nat} {wh : Nat → Nat → Bool} {it : Nat → Nat → Nat} {W wv : Nat → Nat} (h : AS σ an m wh it W wv) (hE : AE n ex an m wh it) {x p : Nat} (hx : x < an) (hp : p < n) (hp60 : p < 60) (hex : ex p = true) : PU σ n ex an (f_X0_joinPiece (nI x) (nI p)) (f_X8_put_49 (nI x) (nI p) 0) := by
  have hn := h.1.1.1
  have b0 : (0 : Int32) = b01 false := rfl
  by_cases hm : m x < 20
  · have h' := h.2.1.piece (x := x) (v := p) hm
    have hFC := FC.new h.2.1 hn h' hx h.hW (fun z => absurd z (by decide))
    rw [if_neg (show ¬ false = true by decide)] at hFC
    obtain ⟨σ1, f1, r⟩ := p_hasRoom h hx hFC
    have h1 : AS σ1 an m wh it W wv := h.fr f1.p (by intro r i k; unfold PAs P15; omega)
    have e1 : (1 : Int32) = nI 1 := by decide
    rcases r with ⟨q1, -, q3⟩ | ⟨q1, q2⟩
    · obtain ⟨σ2, a1, a2, a3, a4⟩ := p_append h1.1.1 (v := p) (q := false) hx hm (h1.1.2 x hx).2.1 (fun b hb => ⟨(h1.2.2 b hb).1.1, (q3 b hb).1, (q3 b hb).2.1⟩)
      have run7 : f_X0_joinPiece (nI x) (nI p) σ = some (nI (m x + 1), σ2) := by
        rw [f_X0_joinPiece, e1, q1, cal_some, if_neg (show ¬ (1 : Int32) = 0 by decide), b0, a1, cal_some]
      have hI2 : MI8 σ2 an m wh it := h1.mi.fr a4 (by intro r k; omega)
      obtain ⟨σ3, c1, c2⟩ := p_put49 hn hI2 hx hm (fun a ha => (h.2.1.1 a ha).1) h'
      have fA : fri PPu σ σ3 := (f1.mono (fun r i k z => by unfold PPu PAs; unfold P15 at z; omega)).tr ((a4.mono (fun r i k z => by unfold PPu PAs; omega)).tr (c1.mono (fun r i k z => by unfold PPu PAs; unfold P85 at z; omega)))
      rcases c2 with ⟨d1, d2, d3⟩ | ⟨⟨b, b1, b2⟩, -⟩
      · refine ⟨_, σ2, σ3, run7, by rw [b0]; exact d2, (f1.mono (fun r i k z => by unfold P15 at z; omega)).tr (a4.mono (fun r i k z => by omega)), fA, mN m x, whN m wh x false, itN m it x p, Wc (mN m x) (whN m wh x false) (itN m it x p), wv, ?_, hE.new (fun _ => ⟨hp, hex⟩)⟩
        have hAN : AN σ3 an := (h1.1.1.fr a4 ⟨by omega, by omega⟩).fr c1 ⟨by unfold P85; omega, by unfold P85; omega⟩
        refine h1.grown hx hm hp60 h' hAN d3 d1 (fun b hb => ?_) (fun b hb => ?_) ⟨?_, ?_, ?_⟩ (fun a i ha hz => ⟨?_, ?_⟩) (fun a ha hz => ?_)
        · rw [c1.1 22 b 3 (by unfold P85; omega)]; exact a2 b hb
        · rw [c1.1 22 b 4 (by unfold P85; omega), a4.1 22 b 4 (by omega)]; exact (h1.2.2 b hb).2.1
        · rw [c1.1 22 x 2 (by unfold P85; omega)]; exact a3.1
        · rw [c1.1 23 x _ (by unfold P85; omega)]; exact a3.2.1
        · rw [c1.1 24 x _ (by unfold P85; omega)]; exact a3.2.2
        · rw [c1.1 23 a i (by unfold P85; omega), a4.1 23 a i (by omega)]
        · rw [c1.1 24 a i (by unfold P85; omega), a4.1 24 a i (by omega)]
        · rw [c1.1 22 a 2 (by unfold P85; omega), a4.1 22 a 2 (by omega)]
      · have := (q3 b b1).2.2
        omega
    · have run7 : f_X0_joinPiece (nI x) (nI p) σ = some (-3, σ1) := by
        rw [f_X0_joinPiece, e1, q1, cal_some, if_pos rfl]
      obtain ⟨σ3, c1, c2⟩ := p_put49 hn h1.mi hx hm (fun a ha => (h.2.1.1 a ha).1) h'
      have hbig : ∃ b, b < an ∧ 500 < Wc (mN m x) (whN m wh x false) (itN m it x p) b := by
        rcases q2 with q2 | q2
        · omega
        · exact q2
      rcases c2 with ⟨d1, -⟩ | ⟨-, d2, d3⟩
      · obtain ⟨b, b1, b2⟩ := hbig
        have := d1 b b1
        omega
      · refine ⟨-3, σ1, σ3, run7, by rw [b0]; exact d2, f1.mono (fun r i k z => by unfold P15 at z; omega), (f1.mono (fun r i k z => by unfold PPu PAs; unfold P15 at z; omega)).tr (c1.mono (fun r i k z => by unfold PPu PAs; unfold P85 at z; omega)), m, wh, it, W, wv, put_full h f1 hx hm (c1.mono (fun _ _ _ z => Or.inr z)) d3, hE⟩
  · have hm20 : m x = 20 := by have := (h.2.1.1 x hx).1; omega
    obtain ⟨r1, r2, r3⟩ := row_at h.1.1 hx
    have e22 : σ.1 22 x 2 = nI 20 := by rw [← hm20]; exact (h.1.2 x hx).2.1
    have e82 : σ.1 82 0 x = nI 20 := by rw [← hm20]; exact (h.1.2 x hx).2.2.1
    have hr : f_X0_hasRoom (nI x) 1 σ = some (0, σ) := by
      rw [f_X0_hasRoom, chk_p r1, r3, lt_eq, oel_s, e22, if_neg (by decide)]
    refine PU.same h hE (r := -3) ?_ ?_
    · rw [f_X0_joinPiece, hr, cal_some, if_pos rfl]
    · rw [f_X8_put_49, chk_p r1, r2, e82, lt_eq, if_pos (by decide)]
/-! an assembly into another -/
theorem ja54 {an : Nat} {wv : Nat → Nat} {x v D : Nat} (hx : x < an) (hD : D < 4096) (hDx : D.testBit x = false) : ∀ (s t fuel : Nat) (σ : SS), t + s = an → s < fuel → AN σ an → (∀ b, b < an → σ.1 22 b 4 = nI (if b < t ∧ (b = x ∨ wiV wv b x = true) then wv b ||| D else wv b) ∧ wv b < 4096) → ∃ σ', f_X0_joinAssembly_54 fuel (nI x) (nI v) (nI D) (nI t) σ = f_X0_joinAssembly_101 (nI x) (nI v) σ' ∧ (∀ b, b < an → σ'.1 22 b 4 = nI (if b = x ∨ wiV wv b x = true then wv b ||| D else wv b)) ∧ fri (fun r _ k => r = 22 ∧ k = 4) σ σ' := by
  intro s
  induction s with
  | zero =>
    intro t fuel σ ht hf hA hb
    obtain ⟨f, rfl⟩ : ∃ f, fuel = f + 1 := ⟨fuel - 1, by omega⟩
    have hn := hA.1
    rw [f_X0_joinAssembly_54, hA.2.1, if_pos (nI_le (by omega) (by omega))]
    refine ⟨σ, rfl, fun b h => ?_, fri.rf _ _⟩
    rw [(hb b h).1]
    by_cases z : b = x ∨ wiV wv b x = true
    · rw [if_pos z, if_pos ⟨by omega, z⟩]
    · rw [if_neg z, if_neg (fun y => z y.2)]
  | succ s ih =>
    intro t fuel σ ht hf hA hb
    obtain ⟨f, rfl⟩ : ∃ f, fuel = f + 1 := ⟨fuel - 1, by omega⟩
    have hn := hA.1
    have htn : t < an := by omega
    obtain ⟨r1, r2, r3⟩ := row_at hA htn
    obtain ⟨h1, h2⟩ := hb t htn
    rw [if_neg (fun z => by omega)] at h1
    have hcx : nI t = nI x ↔ t = x := nI_eq (by omega) (by omega)
    have e79 : f_X0_joinAssembly_79 (f_X0_joinAssembly_54 f) (nI x) (nI v) (nI D) (nI t) σ = f_X0_joinAssembly_54 f (nI x) (nI v) (nI D) (nI (t + 1)) (up σ 22 t 4 (nI (wv t ||| D))) := by
      rw [f_X0_joinAssembly_79, chk_p r1, r3, lt_eq, oel_s, h1, nx_or, lt_eq, f_X0_joinAssembly_95, lt_eq, nI_1]
    have iw : f_X0_isWithin (nI x) (nI t) σ = some (b01 (wiV wv t x), σ) := p_isWithin7 (m := fun _ => 0) (wh := fun _ _ => false) (it := fun _ _ => 0) (W := fun _ => 0) hA htn hx h1 h2
    rw [f_X0_joinAssembly_54, hA.2.1, if_neg (nI_ge htn (by omega))]
    have yes : (t = x ∨ wiV wv t x = true) → ∃ σ', f_X0_joinAssembly_54 f (nI x) (nI v) (nI D) (nI (t + 1)) (up σ 22 t 4 (nI (wv t ||| D))) = f_X0_joinAssembly_101 (nI x) (nI v) σ' ∧ (∀ b, b < an → σ'.1 22 b 4 = nI (if b = x ∨ wiV wv b x = true then wv b ||| D else wv b)) ∧ fri (fun r _ k => r = 22 ∧ k = 4) σ σ' := by
      intro hy
      have f1 : fri (fun r _ k => r = 22 ∧ k = 4) σ (up σ 22 t 4 (nI (wv t ||| D))) := fri.up (fri.rf _ _) ⟨rfl, rfl⟩
      obtain ⟨σ', q1, q2, q3⟩ := ih (t + 1) f (up σ 22 t 4 (nI (wv t ||| D))) (by omega) (by omega) (hA.fr f1 ⟨by omega, by omega⟩) (fun b h => by
        by_cases z : b = t
        · subst z
          rw [if_pos ⟨by omega, hy⟩, up_rd, if_pos ⟨rfl, rfl, rfl⟩]
          exact ⟨rfl, h2⟩
        · obtain ⟨a1, a2⟩ := hb b h
          have u1 : (up σ 22 t 4 (nI (wv t ||| D))).1 22 b 4 = σ.1 22 b 4 := by rw [up_rd, if_neg (by omega)]
          rw [u1, a1]
          refine ⟨?_, a2⟩
          by_cases y : b < t ∧ (b = x ∨ wiV wv b x = true)
          · rw [if_pos y, if_pos ⟨by omega, y.2⟩]
          · rw [if_neg y, if_neg (fun w => y ⟨by omega, w.2⟩)])
      exact ⟨σ', q1, q2, f1.tr q3⟩
    by_cases q : t = x
    · rw [if_pos (hcx.mpr q), e79]
      exact yes (Or.inl q)
    · rw [if_neg (fun z => q (hcx.mp z)), iw, cal_some]
      cases qw : wiV wv t x with
      | true =>
        rw [if_neg (show ¬ b01 true = 0 by decide), e79]
        exact yes (Or.inr qw)
      | false =>
        rw [if_pos (show b01 false = 0 by decide), f_X0_joinAssembly_95, lt_eq, nI_1]
        refine ih (t + 1) f σ (by omega) (by omega) hA (fun b h => ?_)
        obtain ⟨a1, a2⟩ := hb b h
        rw [a1]
        refine ⟨?_, a2⟩
        by_cases y : b < t ∧ (b = x ∨ wiV wv b x = true)
        · rw [if_pos y, if_pos ⟨by omega, y.2⟩]
        · rw [if_neg y, if_neg (fun w => y ⟨by
            by_cases z : b = t
            · exfalso
              rcases w.2 with w2 | w2
              · exact q (by rw [← z]; exact w2)
              · rw [z, qw] at w2; exact absurd w2 (by decide)
            · omega, w.2⟩)]
