/-! ===== PURE: turn(), scrap(), move() ===== -/
theorem hcv_n {s p : Nat} (h : s ≠ 1) : hcv s p = nI p := if_neg h
theorem hfv_2 (b : Nat) : hfv 2 b = -1 := rfl
/-- one piece changed, and what was kept of it: the ties again -/
theorem PH.one {σ σ2 : SS} {n : Nat} {R : Nat → Nat → Int} {th og : Nat → Nat} {ex : Nat → Bool} {ba : Nat → Int} (h : PC σ n R th og ex ba) {p : Nat} {Rn : Nat → Int} {xn : Bool} (hs : σ2.2 = σ.2) (h1 : σ2.1 1 0 1 = σ.1 1 0 1) (h2 : σ2.1 25 0 6 = σ.1 25 0 6) (h3 : σ2.1 1 0 2 = σ.1 1 0 2) (hp : PR1 σ2 p Rn (th p) (og p) xn (ba p)) (ho : ∀ q, q < n → q ≠ p → (∀ r k, 16 ≤ r → r ≤ 21 → σ2.1 r q k = σ.1 r q k) ∧ (∀ k, k < 8 → σ2.1 48 0 (8 * q + k) = σ.1 48 0 (8 * q + k)) ∧ (∀ r, r = 47 ∨ (49 ≤ r ∧ r ≤ 52) → σ2.1 r 0 q = σ.1 r 0 q)) : PC σ2 n (fun q => if q = p then Rn else R q) th og (fun q => if q = p then xn else ex q) ba := by
  obtain ⟨a, ⟨b1, b2, b3⟩, c⟩ := h
  refine ⟨by rw [hs]; exact a, ⟨by rw [h1]; exact b1, by rw [h2]; exact b2, by rw [h3]; exact b3⟩, fun q hq => ?_⟩
  by_cases z : q = p
  · subst z
    simp only [if_true]
    exact hp
  · simp only [if_neg z]
    obtain ⟨o1, o2, o3⟩ := ho q hq z
    exact (c q hq).cg o1 o2 o3
theorem q_turn {σ : SS} (hM2 : MT2 σ) {n : Nat} {R : Nat → Nat → Int} {th og : Nat → Nat} {ex : Nat → Bool} {ba : Nat → Int} (hh : PH σ n R th og ex ba) (hd : Nat → Prop) (v1 v2 : Int32) : MU σ hd n ex (f_X7_turn v1 v2) (f_X8_turn v1 v2) := by
  have h := hh.1
  have hn := h.1.1
  rcases h.find v1 with ⟨p, p1, rfl, p3, p4, p5⟩ | ⟨p4, p5⟩
  · by_cases q : (0 : Int32) ≤ v2 ∧ v2 ≤ 2
    · obtain ⟨w, -, w2, rfl⟩ := in_of (m := 0) (M := 2) (by decide) (by decide) q
      have hw : w < 3 := by omega
      obtain ⟨m, la, so, pc, nb, Ro, k7, k8, kv⟩ := hh.2
      obtain ⟨⟨g, s⟩, ⟨hS, hB⟩, ht, hog, ⟨x1, x2⟩, hib, hba⟩ := h.2.2 p p1
      -- the class
      obtain ⟨σa, a1, a2, a3⟩ := p_keep7 (n' := n) k7 (s := 2) (p := p) (b := n) (Rn := R p) kv.1 (by omega) (fun _ => hS.1)
      rw [hcv_n (by decide), hfv_2, if_neg (show ¬ 2 = 1 by decide)] at a1
      obtain ⟨σ1, b1, b2, b3⟩ := p_swing hw (σ := σa) (p := p) (R := R p) (fun k hk => by rw [a3.1 18 p k (by unfold PH7; omega)]; exact hS.1 k hk) (good_sm g s)
      have run7 : f_X7_turn (nI p) (nI w) σ = some (1, σ1) := by
        unfold f_X7_turn
        rw [p4, cal_some]
        simp only [Option.elim]
        rw [p_isFrom, cal_some, if_pos q, if_neg (by decide), a1, cal_some, b1, cal_some]
      have f1 : fri (fun r i k => PH7 r i k ∨ PSa p r i k) σ σ1 := (a3.mono (fun _ _ _ z => Or.inl z)).tr (b3.mono (fun _ _ _ z => Or.inr z))
      have m1 : ∀ r i k, 25 ≤ r → σ1.1 r i k = σ.1 r i k := fun r i k hr => f1.1 r i k (by unfold PH7 PSa P18 PSh; omega)
      -- the model
      have i1 : f_X8_isPiece (nI p) σ1 = some (1, σ1) := by
        have := p_isPiece (σ := σ1) (by rw [m1 25 0 6 (by decide)]; exact h.2.1.2.1) hn p1 (ex := ex p) (by rw [m1 47 0 p (by decide)]; exact x2)
        rw [p3] at this
        exact this
      have k81 : H8 σ1 m so pc Ro := k8.fr f1.1 (by intro r k; unfold PH8 PH7 PSa P18 PSh; omega)
      obtain ⟨σb, c1, c2, c3⟩ := p_keep8 k7.1.1 k81 (s := 2) (p := p) (by omega) (Rn := R p) ⟨Ez (R p), fun k hk => by rw [m1 48 0 _ (by decide)]; exact hB k hk, fun _ _ _ => rfl⟩
      have hBb : BD σb p (Ez (R p)) := fun k hk => by rw [c3.1 48 0 _ (by unfold PH8; omega), m1 48 0 _ (by decide)]; exact hB k hk
      obtain ⟨σc, d1, d2, d3⟩ := t30_loop (w := w) (show p < 60 by omega) 8 0 FU σb rfl (by show 8 < 5000; omega) hBb (fun k hk => absurd hk (Nat.not_lt_zero _))
      have m43 : ∀ r k, 43 ≤ r → r ≤ 45 → σc.1 r 0 k = σ.1 r 0 k := fun r k h1 h2 => by
        rw [d3.1 r 0 k (by unfold P53; omega), c3.1 r 0 k (by unfold PH8; omega), m1 r 0 k (by omega)]
      obtain ⟨σ2, e1, e2, e3⟩ := t61_loop (p := p) (w := w) (show p < 60 by omega) hw 8 0 FU σc rfl (by show 8 < 5000; omega) (fun k hk => by rw [m43 43 k (by decide) (by decide), m43 44 k (by decide) (by decide), m43 45 k (by decide) (by decide)]; exact hM2 k hk) d2 (fun k hk => absurd hk (Nat.not_lt_zero _))
      have run8 : f_X8_turn (nI p) (nI w) σ1 = some (1, σ2) := by
        unfold f_X8_turn
        rw [i1, cal_some, if_neg (by decide), c64_0, c64_2, p_in, cal_some, if_pos q, if_neg (by decide), show (2 : Int32) = nI 2 from rfl, c1, cal_some, ← nI_0, d1, f_X8_turn_59, ← nI_0, e1]
      have f2 : fri (fun r i k => PH8 r i k ∨ P53 r i k ∨ PBd p r i k) σ1 σ2 := (c3.mono (fun _ _ _ z => Or.inl z)).tr ((d3.mono (fun _ _ _ z => Or.inr (Or.inl z))).tr (e3.mono (fun _ _ _ z => Or.inr (Or.inr z))))
      have m2 : ∀ r i k, r < 25 → σ2.1 r i k = σ1.1 r i k := fun r i k hr => f2.1 r i k (by unfold PH8 P53 PBd; omega)
      have fA : fri PMu σ σ2 := (f1.mono (fun r i k z => by unfold PMu PPc; unfold PH7 PSa P18 PSh at *; omega)).tr (f2.mono (fun r i k z => by unfold PMu PPc PN PT; unfold P53 PBd PH8 at *; omega))
      refine ⟨1, σ1, σ2, run7, run8, fA.p, n, (fun q => if q = p then swR w (R p) else R q), th, og, (fun q => if q = p then ex p else ex q), ba, ⟨?_, ?_⟩, ?_⟩
      · refine PH.one h fA.2 ?_ ?_ ?_ ?_ ?_
        · rw [m2 1 0 1 (by decide), f1.1 1 0 1 (by unfold PH7 PSa P18 PSh; omega)]
        · rw [f2.1 25 0 6 (by unfold PH8 P53 PBd; omega), m1 25 0 6 (by decide)]
        · rw [m2 1 0 2 (by decide), f1.1 1 0 2 (by unfold PH7 PSa P18 PSh; omega)]
        · have z16 : ∀ k, σ2.1 16 p k = σ.1 16 p k := fun k => by rw [m2 16 p k (by decide), f1.1 16 p k (by unfold PH7 PSa P18 PSh; omega)]
          have zm : ∀ r k, r = 47 ∨ (49 ≤ r ∧ r ≤ 52) → σ2.1 r 0 k = σ.1 r 0 k := fun r k hr => by rw [f2.1 r 0 k (by unfold PH8 P53 PBd; omega), m1 r 0 k (by omega)]
          refine ⟨⟨sw_good g hw, fun k hk => s _ (trn_sf w hw k hk).2.1⟩, ⟨⟨fun k hk => ?_, ?_, fun j hj => ?_⟩, fun k hk => ?_⟩, ⟨ht.1, ?_, ?_⟩, ⟨hog.1, ?_, ?_⟩, ⟨?_, ?_⟩, ?_, fun z => ⟨?_, ?_⟩⟩
          · rw [m2 18 p k (by decide)]; exact b2.1 k hk
          · rw [m2 17 p 4 (by decide)]; exact b2.2.1
          · rw [m2 19 p j (by decide), m2 20 p j (by decide), m2 21 p j (by decide)]; exact b2.2.2 j hj
          · have := e2 (trn w k) (trn_sf w hw k hk).2.1
            rw [(pmw_f w hw k hk).2.2] at this
            exact this
          · rw [z16]; exact ht.2.1
          · rw [zm 49 p (by omega)]; exact ht.2.2
          · rw [z16]; exact hog.2.1
          · rw [zm 50 p (by omega)]; exact hog.2.2
          · rw [z16]; exact x1
          · rw [zm 47 p (by omega)]; exact x2
          · rw [zm 51 p (by omega)]; exact hib
          · rw [z16]; exact (hba z).1
          · rw [zm 52 p (by omega)]; exact (hba z).2
        · intro q hq hne
          refine ⟨fun r k h1 h2 => ?_, fun k hk => ?_, fun r hr => ?_⟩
          · rw [m2 r q k (by omega), f1.1 r q k (by unfold PH7 PSa P18 PSh; omega)]
          · rw [f2.1 48 0 _ (by unfold PH8 P53 PBd; omega), m1 48 0 _ (by decide)]
          · rw [f2.1 r 0 q (by unfold PH8 P53 PBd; omega), m1 r 0 q (by omega)]
      · refine ⟨_, _, _, _, _, _, H7.fr (H7.fr a2 b3.1 ?_) f2.1 ?_, H8.fr c2 (P := fun r i k => P53 r i k ∨ PBd p r i k) ((d3.mono (fun _ _ _ z => Or.inl z)).tr (e3.mono (fun _ _ _ z => Or.inr z))).1 ?_, ?_⟩
        · intro r k; unfold PH7 PSa P18 PSh; omega
        · intro r k; unfold PH7 PH8 P53 PBd; omega
        · intro r k; unfold PH8 P53 PBd; omega
        · exact HV.push k7.1.1 kv (s := 2) (p := p) (Rn := R p) (by omega) (fun z => absurd z (by decide)) (fun _ => ⟨p1, g, s⟩)
      · intro q hq hx _
        refine ⟨hq, ?_⟩
        show (if q = p then ex p else ex q) = true
        by_cases z : q = p
        · rw [if_pos z]; exact p3
        · rw [if_neg z]; exact hx
    · refine MU.same hh (r := -1) ?_ ?_
      · unfold f_X7_turn
        rw [p4, cal_some]
        simp only [Option.elim]
        rw [p_isFrom, cal_some, if_neg q, if_pos rfl]
      · unfold f_X8_turn
        rw [p5, cal_some, if_neg (by decide), c64_0, c64_2, p_in, cal_some, if_neg q, if_pos rfl]
  · refine MU.same hh (r := -1) ?_ ?_
    · unfold f_X7_turn
      rw [p4, cal_some]
      rfl
    · unfold f_X8_turn
      rw [p5, cal_some, if_pos rfl]
