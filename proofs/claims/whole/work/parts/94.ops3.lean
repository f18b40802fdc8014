/-! ===== PURE: move(), scrap() ===== -/
theorem sh_fit {e R : Nat → Int} (h : Fit e R) (x y : Int) : Fit (fun k => e k + mz k x y) (shR R x y) := by
  obtain ⟨a, ww, b, d⟩ := h
  have a := of8 a
  have b := of8 b
  have d := of8 d
  simp only [ld] at a d
  obtain ⟨a0, a1, a2, a3, a4, a5, a6, a7⟩ := a
  obtain ⟨b0, b1, b2, b3, b4, b5, b6, b7⟩ := b
  obtain ⟨d0, d1, d2, d3, d4, d5, d6, d7⟩ := d
  refine ⟨?_, ?_, ?_, ?_⟩
  · apply all8 <;> simp only [ld, shR, mz] <;> omega
  · simp only [shR, mz]
    omega
  · apply all8 <;> simp only [shR, mz] <;> omega
  · apply all8 <;> simp only [ld, shR, mz] <;> omega
theorem sh_ez (R : Nat → Int) (x y : Int) (k : Nat) : Ez (shR R x y) k = Ez R k + mz k x y := by
  unfold Ez shR
  omega
theorem sh_good {R : Nat → Int} (h : Good R) (x y : Int) : Good (shR R x y) := fit_cg (sh_fit h x y) (fun k _ => (sh_ez R x y k).symm)
theorem can_loop {σ : SS} {p : Nat} {R : Nat → Int} (hR : ∀ k, k < 8 → σ.1 18 p k = iz (R k)) (hm : Sm R) {x y : Int} (hb : pb x y) : ∀ (s t fuel : Nat), t + s = 8 → s < fuel → ((∀ k, t ≤ k → k < 8 → Ez R k + mz k x y ≤ 4000) → f_X3_canShift_2 fuel p (iz x) (iz y) (nI t) σ = some (1, σ)) ∧ (¬ (∀ k, t ≤ k → k < 8 → Ez R k + mz k x y ≤ 4000) → f_X3_canShift_2 fuel p (iz x) (iz y) (nI t) σ = some (0, σ)) := by
  intro s
  induction s with
  | zero =>
    intro t fuel ht hf
    obtain ⟨f, rfl⟩ : ∃ f, fuel = f + 1 := ⟨fuel - 1, by omega⟩
    have : t = 8 := by omega
    subst this
    rw [f_X3_canShift_2, if_pos (by decide)]
    exact ⟨fun _ => rfl, fun h => absurd (fun k h1 h2 => by omega) h⟩
  | succ s ih =>
    intro t fuel ht hf
    obtain ⟨f, rfl⟩ : ∃ f, fuel = f + 1 := ⟨fuel - 1, by omega⟩
    have h8 : t < 8 := by omega
    have mb := mz_b hb t h8
    have sb := hm t h8
    have eb : -10001 ≤ Ez R t ∧ Ez R t ≤ 10001 := by unfold Ez; omega
    have hc : iz (Ez R t + mz t x y) ≤ (4000 : Int32) ↔ Ez R t + mz t x y ≤ 4000 := iz_le (b := 4000) ⟨by omega, by omega⟩ ⟨by decide, by decide⟩
    rw [f_X3_canShift_2, if_neg (le8 h8), p_wholeReach hR hm h8, cal_some, p_measure h8, cal_some, iz_add]
    obtain ⟨i1, i2⟩ := ih (t + 1) f (by omega) (by omega)
    by_cases q : Ez R t + mz t x y ≤ 4000
    · rw [if_pos (hc.mpr q), lt_eq, nI_1]
      refine ⟨fun h => i1 (fun k h1 h2 => h k (by omega) h2), fun h => i2 (fun z => h (fun k h1 h2 => ?_))⟩
      by_cases qq : k = t
      · rw [qq]; exact q
      · exact z k (by omega) h2
    · rw [if_neg (fun z => q (hc.mp z))]
      exact ⟨fun h => absurd (h t (Nat.le_refl _) h8) q, fun _ => rfl⟩
theorem m41_loop {σ : SS} (hM : MTb σ) {p : Nat} (hp : p < 60) {E : Nat → Int} (hB : BD σ p E) (hE : ∀ k, k < 8 → -10000 ≤ E k ∧ E k ≤ 10000) {x y : Int} (hb : pb x y) : ∀ (s t fuel : Nat), t + s = 8 → s < fuel → ((∀ k, t ≤ k → k < 8 → -4000 ≤ E k + mz k x y ∧ E k + mz k x y ≤ 4000) → f_X8_move_41 fuel (nI p) (iz x) (iz y) (nI t) σ = f_X8_move_101 (nI p) (iz x) (iz y) σ) ∧ (¬ (∀ k, t ≤ k → k < 8 → -4000 ≤ E k + mz k x y ∧ E k + mz k x y ≤ 4000) → f_X8_move_41 fuel (nI p) (iz x) (iz y) (nI t) σ = some (-1, σ)) := by
  intro s
  induction s with
  | zero =>
    intro t fuel ht hf
    obtain ⟨f, rfl⟩ : ∃ f, fuel = f + 1 := ⟨fuel - 1, by omega⟩
    have : t = 8 := by omega
    subst this
    rw [f_X8_move_41, if_pos (by decide)]
    exact ⟨fun _ => rfl, fun h => absurd (fun k h1 h2 => by omega) h⟩
  | succ s ih =>
    intro t fuel ht hf
    obtain ⟨f, rfl⟩ : ∃ f, fuel = f + 1 := ⟨fuel - 1, by omega⟩
    have h8 : t < 8 := by omega
    obtain ⟨g1, g2⟩ := n8 h8
    obtain ⟨n1, n2, n3⟩ := n480 hp h8
    have mb := mz_b hb t h8
    have sb := hE t h8
    have h1 : (-4000 : Int32) ≤ iz (E t + mz t x y) ↔ -4000 ≤ E t + mz t x y := by
      have e4 : (-4000 : Int32) = iz (-4000) := by decide
      rw [e4]
      exact iz_le ⟨by decide, by decide⟩ ⟨by omega, by omega⟩
    have h2 : iz (E t + mz t x y) ≤ (4000 : Int32) ↔ E t + mz t x y ≤ 4000 := iz_le (b := 4000) ⟨by omega, by omega⟩ ⟨by decide, by decide⟩
    have ev : σ.1 48 0 (8 * p + t) + σ.1 40 0 t * iz x + σ.1 41 0 t * iz y = iz (E t + mz t x y) := by
      rw [hB t h8, (hM t h8).1, (hM t h8).2.1, iz_mul, iz_mul, iz_add, iz_add, mz_eq x y t h8, Int.add_assoc]
    rw [f_X8_move_41, if_neg (le8 h8), n1, chk_p n2, chk_p g1, chk_p g1, n3, g2, ev, c64_m4000, c64_4000, p_in, cal_some, t01]
    have hq : ((-4000 : Int32) ≤ iz (E t + mz t x y) ∧ iz (E t + mz t x y) ≤ (4000 : Int32)) ↔ (-4000 ≤ E t + mz t x y ∧ E t + mz t x y ≤ 4000) := ⟨fun z => ⟨h1.mp z.1, h2.mp z.2⟩, fun z => ⟨h1.mpr z.1, h2.mpr z.2⟩⟩
    obtain ⟨i1, i2⟩ := ih (t + 1) f (by omega) (by omega)
    by_cases q : -4000 ≤ E t + mz t x y ∧ E t + mz t x y ≤ 4000
    · rw [if_pos (hq.mpr q), lt_eq, nI_1]
      refine ⟨fun h => i1 (fun k h1 h2 => h k (by omega) h2), fun h => i2 (fun z => h (fun k h1 h2 => ?_))⟩
      by_cases qq : k = t
      · rw [qq]; exact q
      · exact z k (by omega) h2
    · rw [if_neg (fun z => q (hq.mp z))]
      exact ⟨fun h => absurd (h t (Nat.le_refl _) h8) q, fun _ => rfl⟩
theorem m110_loop {p : Nat} (hp : p < 60) {E : Nat → Int} {x y : Int} : ∀ (s t fuel : Nat) (σ : SS), t + s = 8 → s < fuel → MTb σ → (∀ k, k < 8 → σ.1 48 0 (8 * p + k) = iz (if k < t then E k + mz k x y else E k)) → ∃ σ', f_X8_move_110 fuel (nI p) (iz x) (iz y) (nI t) σ = some (1, σ') ∧ BD σ' p (fun k => E k + mz k x y) ∧ fri (PBd p) σ σ' := by
  intro s
  induction s with
  | zero =>
    intro t fuel σ ht hf hM hB
    obtain ⟨f, rfl⟩ : ∃ f, fuel = f + 1 := ⟨fuel - 1, by omega⟩
    have : t = 8 := by omega
    subst this
    rw [f_X8_move_110, if_pos (by decide)]
    exact ⟨σ, rfl, fun k hk => by rw [hB k hk, if_pos hk], fri.rf _ _⟩
  | succ s ih =>
    intro t fuel σ ht hf hM hB
    obtain ⟨f, rfl⟩ : ∃ f, fuel = f + 1 := ⟨fuel - 1, by omega⟩
    have h8 : t < 8 := by omega
    obtain ⟨g1, g2⟩ := n8 h8
    obtain ⟨n1, n2, n3⟩ := n480 hp h8
    have e0 := hB t h8
    rw [if_neg (by omega)] at e0
    have f1 : fri (PBd p) σ (up σ 48 0 (8 * p + t) (iz (E t + mz t x y))) := fri.up (fri.rf _ _) (by unfold PBd; omega)
    rw [f_X8_move_110, if_neg (le8 h8), n1, chk_p n2, chk_p g1, chk_p g1, chk_p n2, n3, g2, e0, mc_m hM h8, iz_add, lt_eq, lt_eq, nI_1]
    obtain ⟨σ', q1, q2, q3⟩ := ih (t + 1) f (up σ 48 0 (8 * p + t) (iz (E t + mz t x y))) (by omega) (by omega) (hM.fr f1 (by intro r k _ _; unfold PBd; omega)) (fun k hk => by
      by_cases q : k = t
      · rw [q, if_pos (by omega)]
        simp only [up_rd, and_self, if_true]
      · rw [up_rd, if_neg (by omega), hB k hk]
        by_cases q2 : k < t
        · rw [if_pos q2, if_pos (by omega)]
        · rw [if_neg q2, if_neg (by omega)])
    exact ⟨σ', q1, q2, f1.tr q3⟩
theorem q_move {σ : SS} (hM : MTb σ) {n : Nat} {R : Nat → Nat → Int} {th og : Nat → Nat} {ex : Nat → Bool} {ba : Nat → Int} (hh : PH σ n R th og ex ba) (hd : Nat → Prop) (v1 v2 v3 : Int32) : MU σ hd n ex (f_X7_move v1 v2 v3) (f_X8_move v1 v2 v3) := by
  have h := hh.1
  have hn := h.1.1
  rcases h.find v1 with ⟨p, p1, rfl, p3, p4, p5⟩ | ⟨p4, p5⟩
  · by_cases q : (-1000 : Int32) ≤ v2 ∧ v2 ≤ 1000
    · by_cases q' : (-1000 : Int32) ≤ v3 ∧ v3 ≤ 1000
      · obtain ⟨x, xl, xh, rfl⟩ := in_z q
        obtain ⟨y, yl, yh, rfl⟩ := in_z q'
        have z1 : (-1000 : Int32).toInt = -1000 := by decide
        have z2 : (1000 : Int32).toInt = 1000 := by decide
        rw [z1] at xl yl
        rw [z2] at xh yh
        have hb : pb x y := ⟨⟨by omega, by omega⟩, by omega, by omega⟩
        obtain ⟨m, la, so, pc, nb, Ro, k7, k8, kv⟩ := hh.2
        obtain ⟨⟨g, s⟩, ⟨hS, hB⟩, ht, hog, ⟨x1, x2⟩, hib, hba⟩ := h.2.2 p p1
        have hsm := good_sm g s
        have eb := ez_b g s
        obtain ⟨cs1, cs2⟩ := can_loop hS.1 hsm hb 8 0 FU rfl (by show 8 < 5000; omega)
        rw [nI_0] at cs1 cs2
        have opp_nn : ∀ k, k < 8 → 0 ≤ Ez (R p) k + Ez (R p) (opp k) := by
          have w := g.2.1
          have l := of8 g.2.2.1
          apply all8 <;> simp only [opp] <;> omega
        by_cases qc : ∀ k, k < 8 → Ez (R p) k + mz k x y ≤ 4000
        · have both : ∀ k, k < 8 → -4000 ≤ Ez (R p) k + mz k x y ∧ Ez (R p) k + mz k x y ≤ 4000 := fun k hk => by
            have a := qc k hk
            have b := qc (opp k) (opp_lt k hk)
            rw [mz_opp x y k hk] at b
            have c := opp_nn k hk
            omega
          have sR : ∀ k, k < 8 → shR (R p) x y k ≤ 8000 := fun k hk => by
            have := (sh_good g x y).2.2.1 k hk
            have e := sh_ez (R p) x y k
            have := qc k hk
            omega
          -- the class
          obtain ⟨σa, a1, a2, a3⟩ := p_keep7 (n' := n) k7 (s := 2) (p := p) (b := n) (Rn := R p) kv.1 (by omega) (fun _ => hS.1)
          rw [hcv_n (by decide), hfv_2, if_neg (show ¬ 2 = 1 by decide)] at a1
          obtain ⟨σ1, b1, b2, b3⟩ := p_shift (σ := σa) (p := p) (R := R p) (x := x) (y := y) (fun k hk => by rw [a3.1 18 p k (by unfold PH7; omega)]; exact hS.1 k hk) (good_sm (sh_good g x y) sR)
          have run7 : f_X7_move (nI p) (iz x) (iz y) σ = some (1, σ1) := by
            unfold f_X7_move
            rw [p4, cal_some]
            simp only [Option.elim]
            rw [p_isFrom, cal_some, if_pos q, if_neg (by decide), p_isFrom, cal_some, if_pos q', if_neg (by decide), f_X3_canShift, cs1 (fun k _ hk => qc k hk), cal_some, if_neg (by decide), a1, cal_some, b1, cal_some]
          have f1 : fri (fun r i k => PH7 r i k ∨ PSa p r i k) σ σ1 := (a3.mono (fun _ _ _ z => Or.inl z)).tr (b3.mono (fun _ _ _ z => Or.inr z))
          have m1 : ∀ r i k, 25 ≤ r → σ1.1 r i k = σ.1 r i k := fun r i k hr => f1.1 r i k (by unfold PH7 PSa P18 PSh; omega)
          -- the model
          have i1 : f_X8_isPiece (nI p) σ1 = some (1, σ1) := by
            have := p_isPiece (σ := σ1) (by rw [m1 25 0 6 (by decide)]; exact h.2.1.2.1) hn p1 (ex := ex p) (by rw [m1 47 0 p (by decide)]; exact x2)
            rw [p3] at this
            exact this
          have k81 : H8 σ1 m so pc Ro := k8.fr f1.1 (by intro r k; unfold PH8 PH7 PSa P18 PSh; omega)
          have hM1 : MTb σ1 := hM.fr f1 (by intro r k _ _; unfold PH7 PSa P18 PSh; omega)
          have hB1 : BD σ1 p (Ez (R p)) := fun k hk => by rw [m1 48 0 _ (by decide)]; exact hB k hk
          obtain ⟨l1, -⟩ := m41_loop hM1 (show p < 60 by omega) hB1 (ez_b' g s) hb 8 0 FU rfl (by show 8 < 5000; omega)
          rw [nI_0] at l1
          obtain ⟨σb, c1, c2, c3⟩ := p_keep8 k7.1.1 k81 (s := 2) (p := p) (by omega) (Rn := R p) ⟨Ez (R p), fun k hk => hB1 k hk, fun _ _ _ => rfl⟩
          have hBb : BD σb p (Ez (R p)) := fun k hk => by rw [c3.1 48 0 _ (by unfold PH8; omega)]; exact hB1 k hk
          have hMb : MTb σb := hM1.fr c3 (by intro r k _ _; unfold PH8; omega)
          obtain ⟨σ2, e1, e2, e3⟩ := m110_loop (p := p) (show p < 60 by omega) (E := Ez (R p)) (x := x) (y := y) 8 0 FU σb rfl (by show 8 < 5000; omega) hMb (fun k hk => by rw [if_neg (by omega)]; exact hBb k hk)
          have run8 : f_X8_move (nI p) (iz x) (iz y) σ1 = some (1, σ2) := by
            unfold f_X8_move
            rw [i1, cal_some, if_neg (by decide), c64_m1000, c64_1000, p_in, cal_some, if_pos q, if_neg (by decide), p_in, cal_some, if_pos q', if_neg (by decide), l1 (fun k _ hk => both k hk), f_X8_move_101, show (2 : Int32) = nI 2 from rfl, c1, cal_some, ← nI_0, e1]
          have f2 : fri (fun r i k => PH8 r i k ∨ PBd p r i k) σ1 σ2 := (c3.mono (fun _ _ _ z => Or.inl z)).tr (e3.mono (fun _ _ _ z => Or.inr z))
          have m2 : ∀ r i k, r < 25 → σ2.1 r i k = σ1.1 r i k := fun r i k hr => f2.1 r i k (by unfold PH8 PBd; omega)
          have fA : fri PMu σ σ2 := (f1.mono (fun r i k z => by unfold PMu PPc; unfold PH7 PSa P18 PSh at *; omega)).tr (f2.mono (fun r i k z => by unfold PMu PPc PN PT; unfold PBd PH8 at *; omega))
          refine ⟨1, σ1, σ2, run7, run8, fA.p, n, (fun q => if q = p then shR (R p) x y else R q), th, og, (fun q => if q = p then ex p else ex q), ba, ⟨?_, ?_⟩, ?_⟩
          · refine PH.one h fA.2 ?_ ?_ ?_ ?_ ?_
            · rw [m2 1 0 1 (by decide), f1.1 1 0 1 (by unfold PH7 PSa P18 PSh; omega)]
            · rw [f2.1 25 0 6 (by unfold PH8 PBd; omega), m1 25 0 6 (by decide)]
            · rw [m2 1 0 2 (by decide), f1.1 1 0 2 (by unfold PH7 PSa P18 PSh; omega)]
            · have z16 : ∀ k, σ2.1 16 p k = σ.1 16 p k := fun k => by rw [m2 16 p k (by decide), f1.1 16 p k (by unfold PH7 PSa P18 PSh; omega)]
              have zm : ∀ r k, r = 47 ∨ (49 ≤ r ∧ r ≤ 52) → σ2.1 r 0 k = σ.1 r 0 k := fun r k hr => by rw [f2.1 r 0 k (by unfold PH8 PBd; omega), m1 r 0 k (by omega)]
              refine ⟨⟨sh_good g x y, sR⟩, ⟨⟨fun k hk => ?_, ?_, fun j hj => ?_⟩, fun k hk => ?_⟩, ⟨ht.1, ?_, ?_⟩, ⟨hog.1, ?_, ?_⟩, ⟨?_, ?_⟩, ?_, fun z => ⟨?_, ?_⟩⟩
              · rw [m2 18 p k (by decide)]; exact b2.1 k hk
              · rw [m2 17 p 4 (by decide)]; exact b2.2.1
              · rw [m2 19 p j (by decide), m2 20 p j (by decide), m2 21 p j (by decide)]; exact b2.2.2 j hj
              · rw [e2 k hk, sh_ez]
              · rw [z16]; exact ht.2.1
              · rw [zm 49 p (by omega)]; exact ht.2.2
              · rw [z16]; exact hog.2.1
              · rw [zm 50 p (by omega)]; exact hog.2.2
              · rw [z16]; exact x1
              · rw [zm 47 p (by omega)]; exact x2
              · rw [zm 51 p (by omega)]; exact hib
              · rw [z16]; exact (hba z).1
              · rw [zm 52 p (by omega)]; exact (hba z).2
            · intro q hq hne
              refine ⟨fun r k h1 h2 => ?_, fun k hk => ?_, fun r hr => ?_⟩
              · rw [m2 r q k (by omega), f1.1 r q k (by unfold PH7 PSa P18 PSh; omega)]
              · rw [f2.1 48 0 _ (by unfold PH8 PBd; omega), m1 48 0 _ (by decide)]
              · rw [f2.1 r 0 q (by unfold PH8 PBd; omega), m1 r 0 q (by omega)]
          · refine ⟨_, _, _, _, _, _, H7.fr (H7.fr a2 b3.1 ?_) f2.1 ?_, H8.fr c2 e3.1 ?_, ?_⟩
            · intro r k; unfold PH7 PSa P18 PSh; omega
            · intro r k; unfold PH7 PH8 PBd; omega
            · intro r k; unfold PH8 PBd; omega
            · exact HV.push k7.1.1 kv (s := 2) (p := p) (Rn := R p) (by omega) (fun z => absurd z (by decide)) (fun _ => ⟨p1, g, s⟩)
          · intro q hq hx _
            refine ⟨hq, ?_⟩
            show (if q = p then ex p else ex q) = true
            by_cases z : q = p
            · rw [if_pos z]; exact p3
            · rw [if_neg z]; exact hx
        · obtain ⟨-, l2⟩ := m41_loop hM (show p < 60 by omega) hB (ez_b' g s) hb 8 0 FU rfl (by show 8 < 5000; omega)
          rw [nI_0] at l2
          refine MU.same hh (r := -1) ?_ ?_
          · unfold f_X7_move
            rw [p4, cal_some]
            simp only [Option.elim]
            rw [p_isFrom, cal_some, if_pos q, if_neg (by decide), p_isFrom, cal_some, if_pos q', if_neg (by decide), f_X3_canShift, cs2 (fun z => qc (fun k hk => z k (Nat.zero_le _) hk)), cal_some, if_pos rfl]
          · unfold f_X8_move
            rw [p5, cal_some, if_neg (by decide), c64_m1000, c64_1000, p_in, cal_some, if_pos q, if_neg (by decide), p_in, cal_some, if_pos q', if_neg (by decide), l2 (fun z => qc (fun k hk => (z k (Nat.zero_le _) hk).2))]
      · refine MU.same hh (r := -1) ?_ ?_
        · unfold f_X7_move
          rw [p4, cal_some]
          simp only [Option.elim]
          rw [p_isFrom, cal_some, if_pos q, if_neg (by decide), p_isFrom, cal_some, if_neg q', if_pos rfl]
        · unfold f_X8_move
          rw [p5, cal_some, if_neg (by decide), c64_m1000, c64_1000, p_in, cal_some, if_pos q, if_neg (by decide), p_in, cal_some, if_neg q', if_pos rfl]
    · refine MU.same hh (r := -1) ?_ ?_
      · unfold f_X7_move
        rw [p4, cal_some]
        simp only [Option.elim]
        rw [p_isFrom, cal_some, if_neg q, if_pos rfl]
      · unfold f_X8_move
        rw [p5, cal_some, if_neg (by decide), c64_m1000, c64_1000, p_in, cal_some, if_neg q, if_pos rfl]
  · refine MU.same hh (r := -1) ?_ ?_
    · unfold f_X7_move
      rw [p4, cal_some]
      rfl
    · unfold f_X8_move
      rw [p5, cal_some, if_pos rfl]
