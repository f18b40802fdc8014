/-! ===== PURE: undo(), both sides ===== -/
theorem undo7_a {σ σ' : SS} {r : Int32} {m la : Nat} (hl : la < 8) (e3 : σ.1 3 0 3 = nI la) (e4 : σ.1 3 0 4 = nI (m + 1)) (hm : m < 8) (e5 : σ.1 5 0 la = -1) (h47 : f_X7_undo_47 σ = some (r, σ')) : f_X7_undo σ = some (r, σ') := by
  obtain ⟨g1, g2⟩ := n8 hl
  rw [f_X7_undo, e4, if_neg (nI_ne0 (by omega) (by omega)), f_X2_latestFresh, e3, chk_p g1, g2, e5, cal_some, if_pos rfl, h47]
theorem undo7_b {σ σa σ' : SS} {r x : Int32} {m la : Nat} (hl : la < 8) (e3 : σ.1 3 0 3 = nI la) (e4 : σ.1 3 0 4 = nI (m + 1)) (hm : m < 8) (e5 : σ.1 5 0 la = x) (hx : ¬ x = -1) (hh : f_X0_hold x σ = some (0, σ)) (tb : f_X6_takeBackLatest σ = some ((), σa)) (h47 : f_X7_undo_47 σa = some (r, σ')) : f_X7_undo σ = some (r, σ') := by
  obtain ⟨g1, g2⟩ := n8 hl
  rw [f_X7_undo, e4, if_neg (nI_ne0 (by omega) (by omega)), f_X2_latestFresh, e3, chk_p g1, g2, e5, cal_some, if_neg hx, hh, cal_some, if_pos rfl, tb, cal_some, h47]
theorem undo7_c {σ : SS} {x : Int32} {m la : Nat} (hl : la < 8) (e3 : σ.1 3 0 3 = nI la) (e4 : σ.1 3 0 4 = nI (m + 1)) (hm : m < 8) (e5 : σ.1 5 0 la = x) (hx : ¬ x = -1) (hh : f_X0_hold x σ = some (1, σ)) : f_X7_undo σ = some (-2, σ) := by
  obtain ⟨g1, g2⟩ := n8 hl
  rw [f_X7_undo, e4, if_neg (nI_ne0 (by omega) (by omega)), f_X2_latestFresh, e3, chk_p g1, g2, e5, cal_some, if_neg hx, hh, cal_some, if_neg (by decide)]
theorem nI_m1 {n : Nat} (h : n < 100000) : ¬ nI n = -1 := by
  intro z
  have h1 := nI_pos' (n := n) (by omega)
  rw [z] at h1
  exact absurd h1 (by decide)
/-- the class's second half of undo: σ with b pieces, the latest entry s, p, Ro -/
theorem undo7_half {σ : SS} {m la b : Nat} {so pc nb : Nat → Nat} {Ro : Nat → Nat → Int} (k7 : H7 σ (m + 1) la so pc nb Ro) (e1 : σ.1 1 0 1 = nI b) (hb : b ≤ 60) (hc : b ≤ σ.2.1) (hs : so m = 1 ∨ so m = 2 ∨ so m = 3) (hp : so m ≠ 1 → pc m < b ∧ Good (Ro m) ∧ ∀ k, k < 8 → Ro m k ≤ 8000) : ∃ σ', f_X7_undo_47 σ = some (nI m, σ') ∧ H7 σ' m ((la + 7) % 8) so pc nb Ro ∧ (so m ≠ 1 → SH σ' (pc m) (Ro m) ∧ σ'.1 16 (pc m) 4 = 1) ∧ fri (fun r i k => PH7 r i k ∨ (so m ≠ 1 ∧ (PSa (pc m) r i k ∨ (r = 16 ∧ i = pc m ∧ k = 4)))) σ σ' := by
  have k7' := k7
  obtain ⟨⟨m8, l8, e3, e4⟩, hE⟩ := k7
  obtain ⟨x1, x2, x3⟩ := hE m (by omega)
  have eq : rq (m + 1) la m = la := by unfold rq; omega
  rw [eq] at x1 x2 x3
  by_cases q : so m = 1
  · have ex : σ.1 4 0 la = -1 := by rw [x1, q]; rfl
    have hf : f_X6_findEvenScrapped (-1) σ = some (none, σ) := by
      rcases p_fes e1 hb hc (-1) with ⟨p, p1, p2, -⟩ | ⟨-, p3⟩
      · exact absurd p2.symm (nI_m1 (by omega))
      · exact p3
    have r := u82 (σ := σ) (show m < 8 by omega) l8 e3 e4
    have f1 : fri (fun r i k => PH7 r i k ∨ (so m ≠ 1 ∧ (PSa (pc m) r i k ∨ (r = 16 ∧ i = pc m ∧ k = 4)))) σ (up (up σ 3 0 3 (nI ((la + 7) % 8))) 3 0 4 (nI m)) := by
      refine fri.up (fri.up (fri.rf _ _) ?_) ?_ <;> exact Or.inl (by unfold PH7; omega)
    refine ⟨_, by rw [u47_none l8 e3 ex hf, r], ?_, fun z => absurd q z, f1⟩
    exact k7'.drop (fun r k hr => by rw [up_rd, if_neg (by omega), up_rd, if_neg (by omega)]) (by simp (config := { decide := true }) only [up_rd, and_self, if_true, and_false, if_false]) (by simp only [up_rd, and_self, if_true])
  · obtain ⟨p1, g, s⟩ := hp q
    have ex : σ.1 4 0 la = nI (pc m) := by rw [x1]; exact hcv_n q
    have hf : f_X6_findEvenScrapped (nI (pc m)) σ = some (some (pc m), σ) := by
      rcases p_fes e1 hb hc (nI (pc m)) with ⟨p, p2, p3, p4⟩ | ⟨p3, -⟩
      · have : pc m = p := (nI_eq (by omega) (by omega)).mp p3
        rw [this] at p4 ⊢
        exact p4
      · exact absurd ⟨pc m, p1, rfl⟩ p3
    have fu : fri (fun r i k => r = 16 ∧ i = pc m ∧ k = 4) σ (up σ 16 (pc m) 4 1) := fri.up (fri.rf _ _) ⟨rfl, rfl, rfl⟩
    obtain ⟨σb, b1, b2, b3⟩ := p_becomeReach (σ := up σ 16 (pc m) 4 1) (p := pc m) (q := la) (R := Ro m) l8 (good_sm g s) (fun k hk => by rw [fu.1 6 0 _ (by omega)]; exact x3 q k hk)
    have e3b : σb.1 3 0 3 = nI la := by rw [b3.1 3 0 3 (by unfold PSa P18 PSh; omega), fu.1 3 0 3 (by omega)]; exact e3
    have e4b : σb.1 3 0 4 = nI (m + 1) := by rw [b3.1 3 0 4 (by unfold PSa P18 PSh; omega), fu.1 3 0 4 (by omega)]; exact e4
    have r := u82 (σ := σb) (show m < 8 by omega) l8 e3b e4b
    have f1 : fri (fun r i k => PH7 r i k ∨ (so m ≠ 1 ∧ (PSa (pc m) r i k ∨ (r = 16 ∧ i = pc m ∧ k = 4)))) σ (up (up σb 3 0 3 (nI ((la + 7) % 8))) 3 0 4 (nI m)) := by
      refine fri.up (fri.up ((fu.mono (fun _ _ _ z => Or.inr ⟨q, Or.inr z⟩)).tr (b3.mono (fun _ _ _ z => Or.inr ⟨q, Or.inl z⟩))) ?_) ?_ <;> exact Or.inl (by unfold PH7; omega)
    have f3 : fri (fun r i k => r = 3) σb (up (up σb 3 0 3 (nI ((la + 7) % 8))) 3 0 4 (nI m)) := fri.up (fri.up (fri.rf _ _) rfl) rfl
    refine ⟨_, by rw [u47_some l8 e3 ex hf b1, r], ?_, fun _ => ⟨⟨fun k hk => ?_, ?_, fun j hj => ?_⟩, ?_⟩, f1⟩
    · exact k7'.drop (fun r k hr => by rw [f3.1 r 0 k (by omega), b3.1 r 0 k (by unfold PSa P18 PSh; omega), fu.1 r 0 k (by omega)]) (by simp (config := { decide := true }) only [up_rd, and_self, if_true, and_false, if_false]) (by simp only [up_rd, and_self, if_true])
    · rw [f3.1 18 _ k (by omega)]; exact b2.1 k hk
    · rw [f3.1 17 _ 4 (by omega)]; exact b2.2.1
    · rw [f3.1 19 _ j (by omega), f3.1 20 _ j (by omega), f3.1 21 _ j (by omega)]; exact b2.2.2 j hj
    · rw [f3.1 16 _ 4 (by omega), b3.1 16 _ 4 (by unfold PSa P18 PSh; omega)]
      simp only [up_rd, and_self, if_true]
theorem q_undo {σ : SS} {n : Nat} {R : Nat → Nat → Int} {th og : Nat → Nat} {ex : Nat → Bool} {ba : Nat → Int} (hh : PH σ n R th og ex ba) {an : Nat} {am : Nat → Nat} (hI : IT σ an am) : MU σ (fun p => held σ an am (nI p) = true) n ex f_X7_undo f_X8_undo := by
  have h := hh.1
  have hn := h.1.1
  obtain ⟨m0, la, so, pc, nb, Ro, k7, k8, kv⟩ := hh.2
  by_cases q0 : m0 = 0
  · subst q0
    refine MU.same hh (r := -4) ?_ ?_
    · rw [f_X7_undo, k7.1.2.2.2, if_pos (by decide)]
    · rw [f_X8_undo, k8.1, if_pos (by decide)]
  · obtain ⟨m, rfl⟩ : ∃ m, m0 = m + 1 := ⟨m0 - 1, by omega⟩
    have hm8 := k7.1.1
    have hm : m < 8 := by omega
    have l8 := k7.1.2.1
    have e3 := k7.1.2.2.1
    have e4 := k7.1.2.2.2
    obtain ⟨y1, y2, y3⟩ := k7.2 m (by omega)
    have eq : rq (m + 1) la m = la := by unfold rq; omega
    rw [eq] at y1 y2 y3
    obtain ⟨w1, w2, w3⟩ := k8.2 m (by omega)
    obtain ⟨v0, v1, v2, v3⟩ := kv.2 m (by omega)
    have vn := kv.1
    rw [v1] at vn
    -- nb m is how many pieces there were before
    generalize hb : nb m = b at vn v2 v3 y2
    have hkv : HV b m so pc nb Ro := ⟨hb, fun j hj => kv.2 j (by omega)⟩
    have hpc60 : pc m < 60 := by
      by_cases z : so m = 1
      · have := v2 z
        rw [z] at vn
        simp only [if_neg (show ¬ (1 : Nat) = 2 by decide)] at vn
        omega
      · have := (v3 z).1
        omega
    -- what both sides leave, given the class's and the model's ends
    have fin : (so m ≠ 2 → held σ an am (nI b) = false) → (∃ σ1, f_X7_undo σ = some (nI m, σ1) ∧ H7 σ1 m ((la + 7) % 8) so pc nb Ro ∧ σ1.1 1 0 1 = nI b ∧ σ1.1 1 0 2 = nI (blk og b) ∧ (so m ≠ 1 → SH σ1 (pc m) (Ro m) ∧ σ1.1 16 (pc m) 4 = 1) ∧ fri (fun r i k => (r = 1 ∧ (k = 1 ∨ k = 2)) ∨ PH7 r i k ∨ (so m ≠ 1 ∧ (PSa (pc m) r i k ∨ (r = 16 ∧ i = pc m ∧ k = 4)))) σ σ1) → MU σ (fun p => held σ an am (nI p) = true) n ex f_X7_undo f_X8_undo := by
      intro hnh ⟨σ1, run7, k71, e1, e2, hS1, f1⟩
      have m1 : ∀ r i k, 25 ≤ r → σ1.1 r i k = σ.1 r i k := fun r i k hr => f1.1 r i k (by unfold PH7 PSa P18 PSh; omega)
      have fr1 : frp PMu σ σ1 := (f1.mono (fun r i k z => by unfold PMu PPc; unfold PH7 PSa P18 PSh at z; unfold PH7; omega)).p
      have st : so m ≠ 2 → f_X8_stands (nI b) σ1 = some (0, σ1) := fun z => by
        have := (p_hold (hI.fr fr1 PMu_as) (nI b)).2
        rw [held_fr fr1 PMu_as, hnh z, if_neg (by decide)] at this
        exact this
      obtain ⟨σ2, run8, z1, z2, z3, f2⟩ := undo8 (σ := σ1) (m := m) (n := b) (s := so m) (p := pc m) hm hpc60 (by split at vn <;> omega) v0 (by rw [m1 25 0 23 (by decide)]; exact k8.1) (by rw [m1 25 0 6 (by decide), vn]; exact h.2.1.2.1) (fun z => by rw [if_neg z] at vn; omega) (by rw [m1 64 0 m (by decide)]; exact w1) (by rw [m1 65 0 m (by decide)]; exact w2) st (E := Ez (Ro m)) (fun z k hk => by rw [m1 66 0 _ (by decide)]; exact w3 z k hk)
      have m2 : ∀ r i k, r < 25 → σ2.1 r i k = σ1.1 r i k := fun r i k hr => f2.1 r i k (by unfold PBd; omega)
      have fA : fri PMu σ σ2 := (f1.mono (fun r i k z => by unfold PMu PPc; unfold PH7 PSa P18 PSh at z; unfold PH7; omega)).tr (f2.mono (fun r i k z => by unfold PMu PPc PH8; unfold PBd at z; omega))
      have hbn : b ≤ n := by split at vn <;> omega
      refine ⟨nI m, σ1, σ2, run7, run8, fA.p, b, (fun q => if so m ≠ 1 ∧ q = pc m then Ro m else R q), th, og, (fun q => if so m ≠ 1 ∧ q = pc m then true else ex q), ba, ⟨⟨?_, ⟨?_, z1, ?_⟩, fun q hq => ?_⟩, ?_⟩, ?_⟩
      · have := h.1
        rw [fA.2]
        omega
      · rw [m2 1 0 1 (by decide)]; exact e1
      · rw [m2 1 0 2 (by decide)]; exact e2
      · by_cases z : so m ≠ 1 ∧ q = pc m
        · obtain ⟨za, zb⟩ := z
          show PR1 σ2 q (if so m ≠ 1 ∧ q = pc m then Ro m else R q) (th q) (og q) (if so m ≠ 1 ∧ q = pc m then true else ex q) (ba q)
          rw [if_pos ⟨za, zb⟩, if_pos ⟨za, zb⟩]
          subst zb
          obtain ⟨sh, s16⟩ := hS1 za
          obtain ⟨s47, sBD⟩ := z3 za
          obtain ⟨-, -, ht, hog, -, hib, hba⟩ := h.2.2 (pc m) (by omega)
          have z16 : ∀ k, k ≠ 4 → σ2.1 16 (pc m) k = σ.1 16 (pc m) k := fun k hk => by rw [m2 16 _ k (by decide), f1.1 16 _ k (by unfold PH7 PSa P18 PSh; omega)]
          have zm : ∀ r, (49 ≤ r ∧ r ≤ 52) → σ2.1 r 0 (pc m) = σ.1 r 0 (pc m) := fun r hr => by rw [f2.1 r 0 _ (by unfold PBd; omega), m1 r 0 _ (by omega)]
          refine ⟨(v3 za).2, ⟨⟨fun k hk => ?_, ?_, fun j hj => ?_⟩, sBD⟩, ⟨ht.1, ?_, ?_⟩, ⟨hog.1, ?_, ?_⟩, ⟨?_, ?_⟩, ?_, fun y => ⟨?_, ?_⟩⟩
          · rw [m2 18 _ k (by decide)]; exact sh.1 k hk
          · rw [m2 17 _ 4 (by decide)]; exact sh.2.1
          · rw [m2 19 _ j (by decide), m2 20 _ j (by decide), m2 21 _ j (by decide)]; exact sh.2.2 j hj
          · rw [z16 1 (by decide)]; exact ht.2.1
          · rw [zm 49 (by omega)]; exact ht.2.2
          · rw [z16 2 (by decide)]; exact hog.2.1
          · rw [zm 50 (by omega)]; exact hog.2.2
          · rw [m2 16 _ 4 (by decide)]; exact s16
          · rw [s47]; split <;> rfl
          · rw [zm 51 (by omega)]; exact hib
          · rw [z16 3 (by decide)]; exact (hba y).1
          · rw [zm 52 (by omega)]; exact (hba y).2
        · show PR1 σ2 q (if so m ≠ 1 ∧ q = pc m then Ro m else R q) (th q) (og q) (if so m ≠ 1 ∧ q = pc m then true else ex q) (ba q)
          rw [if_neg z, if_neg z]
          refine (h.2.2 q (by omega)).cg (fun r k h1 h2 => ?_) (fun k hk => ?_) (fun r hr => ?_)
          · rw [m2 r q k (by omega), f1.1 r q k (by unfold PH7 PSa P18 PSh; omega)]
          · rw [f2.1 48 0 _ (by unfold PBd; omega), m1 48 0 _ (by decide)]
          · rw [f2.1 r 0 q (by unfold PBd; omega), m1 r 0 q (by omega)]
      · refine ⟨m, (la + 7) % 8, so, pc, nb, Ro, k71.fr f2.1 ?_, ⟨z2, fun j hj => ?_⟩, hkv⟩
        · intro r k; unfold PH7 PBd; omega
        · obtain ⟨c1, c2, c3⟩ := k8.2 j (by omega)
          refine ⟨?_, ?_, fun z k hk => ?_⟩
          · rw [f2.1 64 0 j (by unfold PBd; omega), m1 64 0 j (by decide)]; exact c1
          · rw [f2.1 65 0 j (by unfold PBd; omega), m1 65 0 j (by decide)]; exact c2
          · rw [f2.1 66 0 _ (by unfold PBd; omega), m1 66 0 _ (by decide)]; exact c3 z k hk
      · intro p hp hx hhd
        have hpb : p < b := by
          by_cases z : so m = 2
          · rw [if_pos z] at vn; omega
          · rw [if_neg z] at vn
            by_cases zz : p = b
            · rw [zz, hnh z] at hhd
              exact absurd hhd (by decide)
            · omega
        refine ⟨hpb, ?_⟩
        show (if so m ≠ 1 ∧ p = pc m then true else ex p) = true
        by_cases z : so m ≠ 1 ∧ p = pc m
        · rw [if_pos z]
        · rw [if_neg z]; exact hx
    by_cases q2 : so m = 2
    · rw [if_pos q2, Nat.add_zero] at vn
      subst vn
      have e5 : σ.1 5 0 la = -1 := by rw [y2, q2]; rfl
      obtain ⟨σ1, h1, h2, h3, h4⟩ := undo7_half k7 h.2.1.1 hn h.1.2.1 v0 v3
      refine fin (fun z => absurd q2 z) ⟨σ1, undo7_a l8 e3 e4 hm e5 h1, h2, ?_, ?_, h3, h4.mono (fun _ _ _ z => Or.inr z)⟩
      · rw [h4.1 1 0 1 (by unfold PH7 PSa P18 PSh; omega)]; exact h.2.1.1
      · rw [h4.1 1 0 2 (by unfold PH7 PSa P18 PSh; omega)]; exact h.2.1.2.2
    · rw [if_neg q2] at vn
      subst vn
      have e5 : σ.1 5 0 la = nI b := by rw [y2]; exact if_neg q2
      obtain ⟨hd7, hd8⟩ := p_hold hI (nI b)
      cases hq : held σ an am (nI b) with
      | true =>
        rw [hq] at hd7 hd8
        refine MU.same hh (r := -2) (undo7_c l8 e3 e4 hm e5 (nI_m1 (by omega)) hd7) ?_
        obtain ⟨g1, g2⟩ := n8 hm
        have c2 : ¬ nI (so m) = (2 : Int32) := fun z => q2 ((nI_eq (b := 2) (by omega) (by decide)).mp z)
        rw [f_X8_undo, k8.1, if_neg (nI_ne0 (by omega) (by omega)), nI_pred, chk_p g1, g2, lt_eq, w1, if_neg c2, h.2.1.2.1, nI_pred, hd8, cal_some, if_neg (by decide)]
      | false =>
        rw [hq] at hd7
        obtain ⟨σa, a1, a2, a3, a4⟩ := p_takeBack h
        have k7a : H7 σa (m + 1) la so pc nb Ro := k7.fr a4.1 (by intro r k; unfold PH7; omega)
        obtain ⟨σ1, h1, h2, h3, h4⟩ := undo7_half k7a a2 (by omega) (by have := h.1.2.1; rw [a4.2]; omega) v0 v3
        refine fin (fun _ => hq) ⟨σ1, undo7_b l8 e3 e4 hm e5 (nI_m1 (by omega)) hd7 a1 h1, h2, ?_, ?_, h3, (a4.mono (fun _ _ _ z => Or.inl z)).tr (h4.mono (fun _ _ _ z => Or.inr z))⟩
        · rw [h4.1 1 0 1 (by unfold PH7 PSa P18 PSh; omega)]; exact a2
        · rw [h4.1 1 0 2 (by unfold PH7 PSa P18 PSh; omega)]; exact a3
