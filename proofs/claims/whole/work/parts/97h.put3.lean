/-! ===== PURE: put() of an assembly; put() ===== -/
theorem or_4096 {a b : Nat} (ha : a < 4096) (hb : b < 4096) : a ||| b < 4096 := Nat.or_lt_two_pow (n := 12) ha hb
theorem put_asm {σ : SS} {n : Nat} {ex : Nat → Bool} {an : Nat} {m : Nat → Nat} {wh : Nat → Nat → Bool} {it : Nat → Nat → Nat} {W wv : Nat → Nat} (h : AS σ an m wh it W wv) (hE : AE n ex an m wh it) {x v : Nat} (hx : x < an) (hv : v < an) : PU σ n ex an (f_X0_joinAssembly (nI x) (nI v)) (f_X8_put_33 (nI x) (nI v) 1) := by
  have hn := h.1.1.1
  have b1' : (1 : Int32) = b01 true := rfl
  have hvx : nI v = nI x ↔ v = x := nI_eq (by omega) (by omega)
  have e33 : ∀ σ0, f_X8_put_33 (nI x) (nI v) 1 σ0 = cal (f_X8_isWithin (nI x) (nI v) σ0) (fun x2 s1 => if x2 = 0 then f_X8_put_49 (nI x) (nI v) 1 s1 else some (-2, s1)) := by
    intro σ0
    rw [f_X8_put_33, if_neg (show ¬ (1 : Int32) = 0 by decide)]
  have iw7 : f_X0_isWithin (nI x) (nI v) σ = some (b01 (wiV wv v x), σ) := p_isWithin7 (m := fun _ => 0) (wh := fun _ _ => false) (it := fun _ _ => 0) (W := fun _ => 0) h.1.1 hv hx (h.2.2 v hv).2.1.1 (h.2.2 v hv).2.1.2
  by_cases hst : v = x ∨ wiV wv v x = true
  · -- it would be within itself
    have run7 : f_X0_joinAssembly (nI x) (nI v) σ = some (-2, σ) := by
      rw [f_X0_joinAssembly]
      by_cases q : v = x
      · rw [if_pos (hvx.mpr q)]
      · rcases hst with hst | hst
        · exact absurd hst q
        · rw [if_neg (fun z => q (hvx.mp z)), iw7, hst, cal_some, if_neg (show ¬ b01 true = 0 by decide)]
    obtain ⟨σ2, w1, w2⟩ := p_isWithin8 h.2.1 hn h.mi hx hv
    have hb : (decide (x = v) || wiV wv v x) = true := by
      rcases hst with hst | hst
      · rw [decide_eq_true hst.symm]; rfl
      · rw [hst, Bool.or_true]
    rw [hb] at w1
    refine ⟨-2, σ, σ2, run7, ?_, fri.rf _ _, w2.mono (fun r i k z => by unfold PPu; unfold P86 at z; omega), m, wh, it, W, wv, h.fr w2.p (by intro r i k; unfold PAs P86; omega), hE⟩
    rw [e33, w1, cal_some, if_neg (show ¬ b01 true = 0 by decide)]
  · have nvx : v ≠ x := fun z => hst (Or.inl z)
    have hwx : wiV wv v x = false := by
      cases z : wiV wv v x with
      | false => rfl
      | true => exact absurd (Or.inr z) hst
    obtain ⟨v1, v2⟩ := (h.2.2 v hv).2.1
    obtain ⟨rv1, rv2, rv3⟩ := row_at h.1.1 hv
    have isw : ∀ σ0, AS σ0 an m wh it W wv → ∃ σ', f_X8_isWithin (nI x) (nI v) σ0 = some (0, σ') ∧ fri P86 σ0 σ' := by
      intro σ0 h0
      obtain ⟨σ', w1, w2⟩ := p_isWithin8 h0.2.1 hn h0.mi hx hv
      have hb : (decide (x = v) || wiV wv v x) = false := by
        rw [hwx, decide_eq_false (fun z => nvx z.symm)]; rfl
      rw [hb] at w1
      exact ⟨σ', w1, w2⟩
    by_cases hm : m x < 20
    · -- the bits after it
      have p2 : 2 ^ v < 4096 := by
        have key : ∀ v, v < 12 → 2 ^ v < 4096 := by decide
        exact key v (by omega)
      have hD : wv v ||| 2 ^ v < 4096 := or_4096 v2 p2
      have hDb : ∀ b, (wv v ||| 2 ^ v).testBit b = true ↔ b = v ∨ wiV wv v b = true := by
        intro b
        rw [Nat.testBit_or, Nat.testBit_two_pow, Bool.or_eq_true, decide_eq_true_iff]
        unfold wiV
        constructor
        · intro z
          rcases z with z | z
          · exact Or.inr z
          · exact Or.inl z.symm
        · intro z
          rcases z with z | z
          · exact Or.inr z.symm
          · exact Or.inl z
      have hDx : (wv v ||| 2 ^ v).testBit x = false := by
        cases z : (wv v ||| 2 ^ v).testBit x with
        | false => rfl
        | true =>
          rcases (hDb x).mp z with y | y
          · exact absurd y.symm nvx
          · rw [hwx] at y; exact absurd y (by decide)
      have hw' : ∀ a b, a < an → (wiV (fun b => if b = x ∨ wiV wv b x = true then wv b ||| (wv v ||| 2 ^ v) else wv b) a b = true ↔ wiV wv a b = true ∨ ((a = x ∨ wiV wv a x = true) ∧ (b = v ∨ wiV wv v b = true))) := by
        intro a b _
        show (if a = x ∨ wiV wv a x = true then wv a ||| (wv v ||| 2 ^ v) else wv a).testBit b = true ↔ _
        by_cases z : a = x ∨ wiV wv a x = true
        · rw [if_pos z, Nat.testBit_or, Bool.or_eq_true, hDb]
          constructor
          · intro y
            rcases y with y | y
            · exact Or.inl y
            · exact Or.inr ⟨z, y⟩
          · intro y
            rcases y with y | y
            · exact Or.inl y
            · exact Or.inr y.2
        · rw [if_neg z]
          constructor
          · intro y; exact Or.inl y
          · intro y
            rcases y with y | y
            · exact y
            · exact absurd y.1 z
      have h' := h.2.1.asm hn hx hv nvx hwx hm hw'
      have hFC := FC.new h.2.1 hn h' hx h.hW (fun _ => ⟨hv, nvx, hwx⟩)
      rw [if_pos rfl] at hFC
      obtain ⟨σ1, f1, r⟩ := p_hasRoom h hx hFC
      have h1 : AS σ1 an m wh it W wv := h.fr f1.p (by intro r i k; unfold PAs P15; omega)
      obtain ⟨sv1, sv2, sv3⟩ := row_at h1.1.1 hv
      have head : ∀ R : Option (Int32 × SS), cal (f_X0_hasRoom (nI x) (nI (W v)) σ) (fun x6 s5 => if x6 = 0 then some (-3, s5) else chk (inr (nI v) 12) (lt_ (if ix (nI v) < s5.2.2 then some (ix (nI v)) else none) (fun q7 => Option.elim q7 none (fun i8 => lt_ ((s5.1 22 i8 4) ||| ((1 : Int32) <<< (nI v &&& 31))) (fun x9 => f_X0_joinAssembly_54 FU (nI x) (nI v) x9 0 s5))))) = R → f_X0_joinAssembly (nI x) (nI v) σ = R := by
        intro R hR
        rw [f_X0_joinAssembly, if_neg (fun z => nvx (hvx.mp z)), iw7, hwx, cal_some, if_pos (show b01 false = 0 by decide), chk_p rv1, rv3, lt_eq, oel_s, (h.2.2 v hv).1.1]
        exact hR
      rcases r with ⟨q1, -, q3⟩ | ⟨q1, q2⟩
      · obtain ⟨σa, j1, j2, j3⟩ := ja54 (v := v) (D := wv v ||| 2 ^ v) hx hD hDx an 0 FU σ1 (by omega) (by show an < 5000; omega) h1.1.1 (fun b hb => by rw [if_neg (fun z => by omega)]; exact (h1.2.2 b hb).2.1)
        have ja : f_X0_joinAssembly_54 FU (nI x) (nI v) (nI (wv v ||| 2 ^ v)) 0 σ1 = f_X0_joinAssembly_101 (nI x) (nI v) σa := by rw [← nI_0]; exact j1
        have hANa : AN σa an := h1.1.1.fr j3 ⟨by omega, by omega⟩
        obtain ⟨σ2, a1, a2, a3, a4⟩ := p_append hANa (m := m) (v := v) (q := true) (W := W) (C := Wc (mN m x) (whN m wh x true) (itN m it x v)) hx hm (by rw [j3.1 22 x 2 (by omega)]; exact (h1.1.2 x hx).2.1) (fun b hb => ⟨by rw [j3.1 22 b 3 (by omega)]; exact (h1.2.2 b hb).1.1, by rw [j3.1 15 0 b (by omega)]; exact (q3 b hb).1, (q3 b hb).2.1⟩)
        have run7 : f_X0_joinAssembly (nI x) (nI v) σ = some (nI (m x + 1), σ2) := by
          refine head _ ?_
          rw [q1, cal_some, if_neg (show ¬ (1 : Int32) = 0 by decide), chk_p sv1, sv3, lt_eq, oel_s, (h1.2.2 v hv).2.1.1, bit_one (by omega), nx_or, lt_eq, ja, f_X0_joinAssembly_101, b1', a1, cal_some]
        -- the model
        have fc : fri (fun r i k => (r = 22 ∧ (k = 3 ∨ k = 4)) ∨ (i = x ∧ ((r = 22 ∧ k = 2) ∨ ((r = 23 ∨ r = 24) ∧ k = m x)))) σ1 σ2 := (j3.mono (fun r i k z => by omega)).tr (a4.mono (fun r i k z => by omega))
        have hI2 : MI8 σ2 an m wh it := h1.mi.fr fc (by intro r k; omega)
        have hAN2 : AN σ2 an := h1.1.1.fr fc ⟨by omega, by omega⟩
        obtain ⟨σw, w1, w2⟩ := p_isWithin8 h.2.1 hn hI2 hx hv
        have hb : (decide (x = v) || wiV wv v x) = false := by
          rw [hwx, decide_eq_false (fun z => nvx z.symm)]; rfl
        rw [hb] at w1
        have hIw : MI8 σw an m wh it := hI2.fr w2 (by intro r k; unfold P86; omega)
        obtain ⟨σ3, c1, c2⟩ := p_put49 hn hIw hx hm (fun a ha => (h.2.1.1 a ha).1) h'
        have fA : fri PPu σ σ3 := (f1.mono (fun r i k z => by unfold PPu PAs; unfold P15 at z; omega)).tr ((fc.mono (fun r i k z => by unfold PPu PAs; omega)).tr ((w2.mono (fun r i k z => by unfold PPu PAs; unfold P86 at z; omega)).tr (c1.mono (fun r i k z => by unfold PPu PAs; unfold P85 at z; omega))))
        rcases c2 with ⟨d1, d2, d3⟩ | ⟨⟨b, bb1, bb2⟩, -⟩
        · refine ⟨_, σ2, σ3, run7, ?_, (f1.mono (fun r i k z => by unfold P15 at z; omega)).tr (fc.mono (fun r i k z => by omega)), fA, mN m x, whN m wh x true, itN m it x v, Wc (mN m x) (whN m wh x true) (itN m it x v), (fun b => if b = x ∨ wiV wv b x = true then wv b ||| (wv v ||| 2 ^ v) else wv b), ?_, hE.new (fun z => absurd z (by decide))⟩
          · rw [e33, w1, cal_some, if_pos (show b01 false = 0 by decide), b1']; exact d2
          · have hAN : AN σ3 an := (hAN2.fr w2 ⟨by unfold P86; omega, by unfold P86; omega⟩).fr c1 ⟨by unfold P85; omega, by unfold P85; omega⟩
            have z2 : ∀ r i k, r < 25 → σ3.1 r i k = σ2.1 r i k := fun r i k hr => by rw [c1.1 r i k (by unfold P85; omega), w2.1 r i k (by unfold P86; omega)]
            refine h1.grown hx hm (by omega) h' hAN d3 d1 (fun b hb => ?_) (fun b hb => ⟨?_, ?_⟩) ⟨?_, ?_, ?_⟩ (fun a i ha hz => ⟨?_, ?_⟩) (fun a ha hz => ?_)
            · rw [z2 22 b 3 (by decide)]; exact a2 b hb
            · rw [z2 22 b 4 (by decide), a4.1 22 b 4 (by omega)]; exact j2 b hb
            · have := (h.2.2 b hb).2.1.2
              show (if b = x ∨ wiV wv b x = true then wv b ||| (wv v ||| 2 ^ v) else wv b) < 4096
              split
              · exact or_4096 this hD
              · exact this
            · rw [z2 22 x 2 (by decide)]; exact a3.1
            · rw [z2 23 x _ (by decide)]; exact a3.2.1
            · rw [z2 24 x _ (by decide)]; exact a3.2.2
            · rw [z2 23 a i (by decide), fc.1 23 a i (by omega)]
            · rw [z2 24 a i (by decide), fc.1 24 a i (by omega)]
            · rw [z2 22 a 2 (by decide), fc.1 22 a 2 (by omega)]
        · have := (q3 b bb1).2.2
          omega
      · have run7 : f_X0_joinAssembly (nI x) (nI v) σ = some (-3, σ1) := by
          refine head _ ?_
          rw [q1, cal_some, if_pos rfl]
        obtain ⟨σw, w1, w2⟩ := isw σ1 h1
        have hIw : MI8 σw an m wh it := h1.mi.fr w2 (by intro r k; unfold P86; omega)
        obtain ⟨σ3, c1, c2⟩ := p_put49 hn hIw hx hm (fun a ha => (h.2.1.1 a ha).1) h'
        have hbig : ∃ b, b < an ∧ 500 < Wc (mN m x) (whN m wh x true) (itN m it x v) b := by
          rcases q2 with q2 | q2
          · omega
          · exact q2
        rcases c2 with ⟨d1, -⟩ | ⟨-, d2, d3⟩
        · obtain ⟨b, bb1, bb2⟩ := hbig
          have := d1 b bb1
          omega
        · refine ⟨-3, σ1, σ3, run7, by rw [e33, w1, cal_some, if_pos rfl, b1']; exact d2, f1.mono (fun r i k z => by unfold P15 at z; omega), (f1.mono (fun r i k z => by unfold PPu PAs; unfold P15 at z; omega)).tr ((w2.mono (fun r i k z => by unfold PPu PAs; unfold P86 at z; omega)).tr (c1.mono (fun r i k z => by unfold PPu PAs; unfold P85 at z; omega))), m, wh, it, W, wv, put_full h f1 hx hm ((w2.mono (fun _ _ _ z => Or.inl z)).tr (c1.mono (fun _ _ _ z => Or.inr z))) d3, hE⟩
    · have hm20 : m x = 20 := by have := (h.2.1.1 x hx).1; omega
      obtain ⟨r1, r2, r3⟩ := row_at h.1.1 hx
      have e22 : σ.1 22 x 2 = nI 20 := by rw [← hm20]; exact (h.1.2 x hx).2.1
      have hr : ∀ w, f_X0_hasRoom (nI x) w σ = some (0, σ) := by
        intro w
        rw [f_X0_hasRoom, chk_p r1, r3, lt_eq, oel_s, e22, if_neg (by decide)]
      obtain ⟨σw, w1, w2⟩ := isw σ h
      have e82 : σw.1 82 0 x = nI 20 := by rw [w2.1 82 0 x (by unfold P86; omega), ← hm20]; exact (h.1.2 x hx).2.2.1
      refine ⟨-3, σ, σw, ?_, ?_, fri.rf _ _, w2.mono (fun r i k z => by unfold PPu; unfold P86 at z; omega), m, wh, it, W, wv, h.fr w2.p (by intro r i k; unfold PAs P86; omega), hE⟩
      · rw [f_X0_joinAssembly, if_neg (fun z => nvx (hvx.mp z)), iw7, hwx, cal_some, if_pos (show b01 false = 0 by decide), chk_p rv1, rv3, lt_eq, oel_s, hr, cal_some, if_pos rfl]
      · rw [e33, w1, cal_some, if_pos rfl, f_X8_put_49, chk_p r1, r2, e82, lt_eq, if_pos (by decide)]
theorem PPu_pc : ∀ r i k, PPc r i k → ¬ PPu r i k := by
  intro r i k h
  unfold PPc at h
  unfold PPu PAs
  omega
theorem q_put {σ : SS} {n : Nat} {R : Nat → Nat → Int} {th og : Nat → Nat} {ex : Nat → Bool} {ba : Nat → Int} (hP : PC σ n R th og ex ba) {an : Nat} {m : Nat → Nat} {wh : Nat → Nat → Bool} {it : Nat → Nat → Nat} {W wv : Nat → Nat} (h : AS σ an m wh it W wv) (hE : AE n ex an m wh it) (v1 v2 v3 : Int32) (hv3 : v3 = 0 ∨ v3 = 1) : PU σ n ex an (f_X7_put v1 v2 v3) (f_X8_put v1 v2 v3) := by
  have hn := hP.1.1
  have han := h.1.1.1
  by_cases q1 : (0 : Int32) ≤ v1 ∧ v1 ≤ nI an - 1
  · obtain ⟨x, hx, rfl⟩ := (rng (by omega)).mp q1
    have h7 : f_X0_has (nI x) σ = some (1, σ) := by rw [p_has h.1.1, if_pos q1]
    have h8 : ∀ τ, AN τ an → f_X8_isAssembly (nI x) τ = some (1, τ) := fun τ hτ => by rw [p_isAssembly hτ, if_pos q1]
    rcases hv3 with rfl | rfl
    · rcases hP.find v2 with ⟨p, p1, rfl, p3, p4, p5⟩ | ⟨p4, p5⟩
      · obtain ⟨r, σ1, σ2, a1, a2, a3, a4⟩ := put_piece h hE hx p1 (by omega) p3
        have hAN : AN σ1 an := h.1.1.fr a3 ⟨by omega, by omega⟩
        have hip : f_X8_isPiece (nI p) σ1 = some (1, σ1) := by
          have := p_isPiece (σ := σ1) (by rw [a3.1 25 0 6 (by omega)]; exact hP.2.1.2.1) hn p1 (ex := ex p) (by rw [a3.1 47 0 p (by omega)]; exact (hP.2.2 p p1).2.2.2.2.1.2)
          rw [p3] at this
          exact this
        refine ⟨r, σ1, σ2, ?_, ?_, a3, a4⟩
        · rw [f_X7_put, h7, cal_some, if_neg (show ¬ (1 : Int32) = 0 by decide), if_pos rfl, p4, cal_some, oel_s, f_X7_put_44, if_pos rfl, a1, cal_some]
        · rw [f_X8_put, h8 σ1 hAN, cal_some, if_neg (show ¬ (1 : Int32) = 0 by decide), if_pos rfl, hip, cal_some, if_neg (show ¬ (1 : Int32) = 0 by decide), f_X8_put_33, if_pos rfl, a2]
      · refine PU.same h hE (r := -1) ?_ ?_
        · rw [f_X7_put, h7, cal_some, if_neg (show ¬ (1 : Int32) = 0 by decide), if_pos rfl, p4, cal_some, oel_n]
        · rw [f_X8_put, h8 σ h.1.1, cal_some, if_neg (show ¬ (1 : Int32) = 0 by decide), if_pos rfl, p5, cal_some, if_pos rfl]
    · by_cases q2 : (0 : Int32) ≤ v2 ∧ v2 ≤ nI an - 1
      · obtain ⟨v, hv, rfl⟩ := (rng (by omega)).mp q2
        obtain ⟨r, σ1, σ2, a1, a2, a3, a4⟩ := put_asm h hE hx hv
        have hAN : AN σ1 an := h.1.1.fr a3 ⟨by omega, by omega⟩
        refine ⟨r, σ1, σ2, ?_, ?_, a3, a4⟩
        · rw [f_X7_put, h7, cal_some, if_neg (show ¬ (1 : Int32) = 0 by decide), if_neg (show ¬ (1 : Int32) = 0 by decide), p_has h.1.1, if_pos q2, cal_some, if_neg (show ¬ (1 : Int32) = 0 by decide), f_X7_put_44, if_neg (show ¬ (1 : Int32) = 0 by decide), a1, cal_some]
        · rw [f_X8_put, h8 σ1 hAN, cal_some, if_neg (show ¬ (1 : Int32) = 0 by decide), if_neg (show ¬ (1 : Int32) = 0 by decide), p_isAssembly hAN, if_pos q2, cal_some, if_neg (show ¬ (1 : Int32) = 0 by decide), a2]
      · refine PU.same h hE (r := -1) ?_ ?_
        · rw [f_X7_put, h7, cal_some, if_neg (show ¬ (1 : Int32) = 0 by decide), if_neg (show ¬ (1 : Int32) = 0 by decide), p_has h.1.1, if_neg q2, cal_some, if_pos rfl]
        · rw [f_X8_put, h8 σ h.1.1, cal_some, if_neg (show ¬ (1 : Int32) = 0 by decide), if_neg (show ¬ (1 : Int32) = 0 by decide), p_isAssembly h.1.1, if_neg q2, cal_some, if_pos rfl]
  · refine PU.same h hE (r := -1) ?_ ?_
    · rw [f_X7_put, p_has h.1.1, if_neg q1, cal_some, if_pos rfl]
    · rw [f_X8_put, p_isAssembly h.1.1, if_neg q1, cal_some, if_pos rfl]
