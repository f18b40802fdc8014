/-! ===== PURE: scrap(), block() ===== -/
def PAs (r _i k : Nat) : Prop := (r = 12 ∧ k = 1) ∨ (22 ≤ r ∧ r ≤ 24) ∨ (82 ≤ r ∧ r ≤ 84) ∨ (r = 25 ∧ k = 41)
theorem IT.fr {P : Nat → Nat → Nat → Prop} {σ τ : SS} {n : Nat} {m : Nat → Nat} (h : IT σ n m) (f : frp P σ τ) (hp : ∀ r i k, PAs r i k → ¬ P r i k) : IT τ n m := by
  have e : ∀ r i k, PAs r i k → τ.1 r i k = σ.1 r i k := fun r i k z => f.1 r i k (hp r i k z)
  obtain ⟨⟨a1, a2, a3, a4⟩, b⟩ := h
  refine ⟨⟨a1, ?_, ?_, ?_⟩, fun a ha => ?_⟩
  · rw [e 12 0 1 (by unfold PAs; omega)]; exact a2
  · rw [e 25 0 41 (by unfold PAs; omega)]; exact a3
  · rw [f.2]; exact a4
  · obtain ⟨b1, b2, b3, b4⟩ := b a ha
    refine ⟨b1, by rw [e 22 a 2 (by unfold PAs; omega)]; exact b2, by rw [e 82 0 a (by unfold PAs; omega)]; exact b3, fun i hi => ?_⟩
    rw [e 83 0 _ (by unfold PAs; omega), e 84 0 _ (by unfold PAs; omega), e 23 a i (by unfold PAs; omega), e 24 a i (by unfold PAs; omega)]
    exact b4 i hi
theorem held_fr {P : Nat → Nat → Nat → Prop} {σ τ : SS} {n : Nat} {m : Nat → Nat} {v : Int32} (f : frp P σ τ) (hp : ∀ r i k, PAs r i k → ¬ P r i k) : held τ n m v = held σ n m v := by
  have e : ∀ r i k, PAs r i k → τ.1 r i k = σ.1 r i k := fun r i k z => f.1 r i k (hp r i k z)
  unfold held
  have : (fun a => anyF (spP τ v a) (m a) 0) = (fun a => anyF (spP σ v a) (m a) 0) := by
    funext a
    have : spP τ v a = spP σ v a := by
      funext i
      unfold spP
      rw [e 24 a i (by unfold PAs; omega), e 23 a i (by unfold PAs; omega)]
    rw [this]
  rw [this]
theorem PMu_as : ∀ r i k, PAs r i k → ¬ PMu r i k := by
  intro r i k h
  unfold PAs at h
  unfold PMu PPc PH7 PH8 PN PT PG PO PTw
  omega
theorem q_scrap {σ : SS} {n : Nat} {R : Nat → Nat → Int} {th og : Nat → Nat} {ex : Nat → Bool} {ba : Nat → Int} (hh : PH σ n R th og ex ba) {an : Nat} {am : Nat → Nat} (hI : IT σ an am) (v1 : Int32) : MU σ (fun p => held σ an am (nI p) = true) n ex (f_X7_scrap v1) (f_X8_scrap v1) := by
  have h := hh.1
  have hn := h.1.1
  rcases h.find v1 with ⟨p, p1, rfl, p3, p4, p5⟩ | ⟨p4, p5⟩
  · obtain ⟨hd7, hd8⟩ := p_hold hI (nI p)
    cases hq : held σ an am (nI p) with
    | true =>
      rw [hq] at hd7 hd8
      refine MU.same hh (r := -2) ?_ ?_
      · unfold f_X7_scrap
        rw [p4, cal_some]
        simp only [Option.elim]
        rw [hd7, cal_some, if_pos rfl, if_neg (by decide)]
      · unfold f_X8_scrap
        rw [p5, cal_some, if_neg (by decide), hd8, cal_some, if_pos rfl, if_neg (by decide)]
    | false =>
      rw [hq] at hd7
      obtain ⟨m, la, so, pc, nb, Ro, k7, k8, kv⟩ := hh.2
      obtain ⟨⟨g, s⟩, ⟨hS, hB⟩, ht, hog, ⟨x1, x2⟩, hib, hba⟩ := h.2.2 p p1
      obtain ⟨gi1, gi2⟩ := n60 (show p < 60 by omega)
      obtain ⟨σa, a1, a2, a3⟩ := p_keep7 (n' := n) k7 (s := 2) (p := p) (b := n) (Rn := R p) kv.1 (by omega) (fun _ => hS.1)
      rw [hcv_n (by decide), hfv_2, if_neg (show ¬ 2 = 1 by decide)] at a1
      have run7 : f_X7_scrap (nI p) σ = some (1, up σa 16 p 4 0) := by
        unfold f_X7_scrap
        rw [p4, cal_some]
        simp only [Option.elim]
        rw [hd7, cal_some, if_neg (show ¬ false = true by decide), if_pos rfl, a1, cal_some, lt_eq]
      have f1 : fri (fun r i k => PH7 r i k ∨ (r = 16 ∧ i = p ∧ k = 4)) σ (up σa 16 p 4 0) := fri.up (a3.mono (fun _ _ _ z => Or.inl z)) (Or.inr ⟨rfl, rfl, rfl⟩)
      have e16 : (up σa 16 p 4 0).1 16 p 4 = 0 := by simp only [up_rd, and_self, if_true]
      have h7u : H7 (up σa 16 p 4 0) (mm m) ((la + 1) % 8) (shf m so 2) (shf m pc p) (shn m nb n) (shf m Ro (R p)) := a2.fr (P := fun r i k => r = 16) (fun r i k z => by rw [up_rd, if_neg (fun y => z y.1)]) (by intro r k; unfold PH7; omega)
      generalize up σa 16 p 4 0 = σ1 at run7 f1 e16 h7u
      have m1 : ∀ r i k, 25 ≤ r → σ1.1 r i k = σ.1 r i k := fun r i k hr => f1.1 r i k (by unfold PH7; omega)
      have i1 : f_X8_isPiece (nI p) σ1 = some (1, σ1) := by
        have := p_isPiece (σ := σ1) (by rw [m1 25 0 6 (by decide)]; exact h.2.1.2.1) hn p1 (ex := ex p) (by rw [m1 47 0 p (by decide)]; exact x2)
        rw [p3] at this
        exact this
      have fr1 : frp PMu σ σ1 := (f1.mono (fun r i k z => by unfold PMu PPc; unfold PH7 at *; omega)).p
      obtain ⟨-, st8⟩ := p_hold (hI.fr fr1 PMu_as) (nI p)
      rw [held_fr fr1 PMu_as, hq, if_neg (by decide)] at st8
      have k81 : H8 σ1 m so pc Ro := k8.fr f1.1 (by intro r k; unfold PH8 PH7; omega)
      obtain ⟨σb, c1, c2, c3⟩ := p_keep8 k7.1.1 k81 (s := 2) (p := p) (by omega) (Rn := R p) ⟨Ez (R p), fun k hk => by rw [m1 48 0 _ (by decide)]; exact hB k hk, fun _ _ _ => rfl⟩
      have run8 : f_X8_scrap (nI p) σ1 = some (1, up σb 47 0 p 0) := by
        unfold f_X8_scrap
        rw [i1, cal_some, if_neg (by decide), st8, cal_some, if_pos rfl, show (2 : Int32) = nI 2 from rfl, c1, cal_some, chk_p gi1, gi2, lt_eq]
      have f2 : fri (fun r i k => PH8 r i k ∨ (r = 47 ∧ k = p)) σ1 (up σb 47 0 p 0) := fri.up (c3.mono (fun _ _ _ z => Or.inl z)) (Or.inr ⟨rfl, rfl⟩)
      have e47 : (up σb 47 0 p 0).1 47 0 p = 0 := by simp only [up_rd, and_self, if_true]
      have h8u : H8 (up σb 47 0 p 0) (mm m) (shf m so 2) (shf m pc p) (shf m Ro (R p)) := c2.fr (P := fun r i k => r = 47) (fun r i k z => by rw [up_rd, if_neg (fun y => z y.1)]) (by intro r k; unfold PH8; omega)
      generalize up σb 47 0 p 0 = σ2 at run8 f2 e47 h8u
      have m2 : ∀ r i k, r < 25 → σ2.1 r i k = σ1.1 r i k := fun r i k hr => f2.1 r i k (by unfold PH8; omega)
      have fA : fri PMu σ σ2 := (f1.mono (fun r i k z => by unfold PMu PPc; unfold PH7 at *; omega)).tr (f2.mono (fun r i k z => by unfold PMu PPc; unfold PH8 at *; omega))
      refine ⟨1, σ1, σ2, run7, run8, fA.p, n, (fun q => if q = p then R p else R q), th, og, (fun q => if q = p then false else ex q), ba, ⟨?_, ?_⟩, ?_⟩
      · refine PH.one h fA.2 ?_ ?_ ?_ ?_ ?_
        · rw [m2 1 0 1 (by decide), f1.1 1 0 1 (by unfold PH7; omega)]
        · rw [f2.1 25 0 6 (by unfold PH8; omega), m1 25 0 6 (by decide)]
        · rw [m2 1 0 2 (by decide), f1.1 1 0 2 (by unfold PH7; omega)]
        · have zc : ∀ r k, 16 ≤ r → r ≤ 21 → ¬ (r = 16 ∧ k = 4) → σ2.1 r p k = σ.1 r p k := fun r k h1 h2 h3 => by rw [m2 r p k (by omega), f1.1 r p k (by unfold PH7; omega)]
          have zm : ∀ r, (49 ≤ r ∧ r ≤ 52) → σ2.1 r 0 p = σ.1 r 0 p := fun r hr => by rw [f2.1 r 0 p (by unfold PH8; omega), m1 r 0 p (by omega)]
          refine ⟨⟨g, s⟩, ⟨⟨fun k hk => ?_, ?_, fun j hj => ?_⟩, fun k hk => ?_⟩, ⟨ht.1, ?_, ?_⟩, ⟨hog.1, ?_, ?_⟩, ⟨?_, ?_⟩, ?_, fun z => ⟨?_, ?_⟩⟩
          · rw [zc 18 k (by omega) (by omega) (by omega)]; exact hS.1 k hk
          · rw [zc 17 4 (by omega) (by omega) (by omega)]; exact hS.2.1
          · rw [zc 19 j (by omega) (by omega) (by omega), zc 20 j (by omega) (by omega) (by omega), zc 21 j (by omega) (by omega) (by omega)]; exact hS.2.2 j hj
          · rw [f2.1 48 0 _ (by unfold PH8; omega), m1 48 0 _ (by decide)]; exact hB k hk
          · rw [zc 16 1 (by omega) (by omega) (by omega)]; exact ht.2.1
          · rw [zm 49 (by omega)]; exact ht.2.2
          · rw [zc 16 2 (by omega) (by omega) (by omega)]; exact hog.2.1
          · rw [zm 50 (by omega)]; exact hog.2.2
          · rw [m2 16 p 4 (by decide), e16]; rfl
          · rw [e47]; rfl
          · rw [zm 51 (by omega)]; exact hib
          · rw [zc 16 3 (by omega) (by omega) (by omega)]; exact (hba z).1
          · rw [zm 52 (by omega)]; exact (hba z).2
        · intro q hq hne
          refine ⟨fun r k h1 h2 => ?_, fun k hk => ?_, fun r hr => ?_⟩
          · rw [m2 r q k (by omega), f1.1 r q k (by unfold PH7; omega)]
          · rw [f2.1 48 0 _ (by unfold PH8; omega), m1 48 0 _ (by decide)]
          · rw [f2.1 r 0 q (by unfold PH8; omega), m1 r 0 q (by omega)]
      · refine ⟨_, _, _, _, _, _, h7u.fr f2.1 ?_, h8u, ?_⟩
        · intro r k; unfold PH7 PH8; omega
        · exact HV.push k7.1.1 kv (s := 2) (p := p) (Rn := R p) (by omega) (fun z => absurd z (by decide)) (fun _ => ⟨p1, g, s⟩)
      · intro q hq1 hx hhd
        refine ⟨hq1, ?_⟩
        show (if q = p then false else ex q) = true
        by_cases z : q = p
        · rw [z, hq] at hhd
          exact absurd hhd (by decide)
        · rw [if_neg z]; exact hx
  · refine MU.same hh (r := -1) ?_ ?_
    · unfold f_X7_scrap
      rw [p4, cal_some]
      rfl
    · unfold f_X8_scrap
      rw [p5, cal_some, if_pos rfl]
/-- a piece more on the class's side -/
def PAd (n : Nat) (r i k : Nat) : Prop := ((16 ≤ r ∧ r ≤ 21) ∧ i = n) ∨ (r = 1 ∧ k = 1)
theorem p_add {σ : SS} {n og th : Nat} (h1 : σ.1 1 0 1 = nI n) (hn : n < 60) (hc : n ≤ σ.2.1 ∧ σ.2.1 ≤ 60) : ∃ σ', f_X6_add (nI og) (nI th) σ = some (some n, σ') ∧ (σ'.1 16 n 2 = nI og ∧ σ'.1 16 n 1 = nI th ∧ σ'.1 16 n 4 = 1 ∧ σ'.1 1 0 1 = nI (n + 1)) ∧ (n + 1 ≤ σ'.2.1 ∧ σ'.2.1 ≤ 60) ∧ frp (PAd n) σ σ' := by
  obtain ⟨g1, g2⟩ := n60 hn
  have core : ∀ σ0 : SS, σ0.1 1 0 1 = nI n → n < σ0.2.1 → f_X6_add_28 (nI og) (nI th) σ0 = some (some n, up (up (up (up σ0 16 n 2 (nI og)) 16 n 1 (nI th)) 16 n 4 1) 1 0 1 (nI (n + 1))) := by
    intro σ0 e1 e2
    unfold f_X6_add_28
    rw [e1, chk_p g1, g2, if_pos e2, lt_eq]
    simp only [Option.elim]
    simp (config := { decide := true }) only [lt_, up_rd, false_and, if_false, e1, nI_1]
  have fin : ∀ σ0 : SS, frp (PAd n) σ σ0 → n < σ0.2.1 → σ0.2.1 ≤ 60 → ∃ σ', some (some n, up (up (up (up σ0 16 n 2 (nI og)) 16 n 1 (nI th)) 16 n 4 1) 1 0 1 (nI (n + 1))) = some (some n, σ') ∧ (σ'.1 16 n 2 = nI og ∧ σ'.1 16 n 1 = nI th ∧ σ'.1 16 n 4 = 1 ∧ σ'.1 1 0 1 = nI (n + 1)) ∧ (n + 1 ≤ σ'.2.1 ∧ σ'.2.1 ≤ 60) ∧ frp (PAd n) σ σ' := by
    intro σ0 f0 e2 e3
    refine ⟨_, rfl, ⟨?_, ?_, ?_, ?_⟩, ⟨e2, e3⟩, frp.up (frp.up (frp.up (frp.up f0 ?_) ?_) ?_) ?_⟩
    · simp (config := { decide := true }) only [up_rd, and_self, if_true, false_and, and_false, if_false]
    · simp (config := { decide := true }) only [up_rd, and_self, if_true, false_and, and_false, if_false]
    · simp (config := { decide := true }) only [up_rd, and_self, if_true, false_and, and_false, if_false]
    · simp (config := { decide := true }) only [up_rd, and_self, if_true, false_and, and_false, if_false]
    all_goals (unfold PAd; omega)
  unfold f_X6_add
  rw [h1, chk_p g1, g2]
  by_cases q : n < σ.2.1
  · rw [if_pos q, lt_eq]
    simp only [Option.elim]
    rw [core σ h1 q]
    exact fin σ (frp.rf _ _) q hc.2
  · rw [if_neg q, lt_eq]
    simp only [Option.elim]
    have hcap : σ.2.1 = n := by omega
    have f0 : frp (PAd n) σ (newP σ) := ⟨fun r i k z => by
      show (if (16 ≤ r ∧ r < 22) ∧ i = σ.2.1 then 0 else σ.1 r i k) = _
      rw [if_neg (fun y => z (by unfold PAd; omega))], rfl⟩
    rw [chk_p ⟨hcap.symm, g1⟩, lt_eq, core (newP σ) h1 (by show n < σ.2.1 + 1; omega)]
    exact fin (newP σ) f0 (by show n < σ.2.1 + 1; omega) (by show σ.2.1 + 1 ≤ 60; omega)
