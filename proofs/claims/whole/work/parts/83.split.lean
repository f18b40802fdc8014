/-! ===== PURE: splitAt ===== -/
theorem mul_b {a b A B : Int} (ha : -A ≤ a ∧ a ≤ A) (hb : -B ≤ b ∧ b ≤ B) : -(A * B) ≤ a * b ∧ a * b ≤ A * B := by
  have h1 : (a * b).natAbs ≤ A.natAbs * B.natAbs := by
    rw [Int.natAbs_mul]
    exact Nat.mul_le_mul (by omega) (by omega)
  have h2 : A.natAbs * B.natAbs = (A * B).natAbs := (Int.natAbs_mul A B).symm
  have h3 : 0 ≤ A * B := Int.mul_nonneg (by omega) (by omega)
  omega
theorem scr_opp {T : Nat → Int} {w : Nat} (hw : w < 8) {C : Int} {i : Nat} : Scr T (opp w) (-C) i ↔ Scr T w C i := by
  unfold Scr
  rw [mz_opp _ _ w hw, mz_opp _ _ w hw]
  omega
def SHw (σ : SS) (p : Nat) (R : Nat → Int) : Prop := σ.1 17 p 4 = nI (pl R).length ∧ ∀ j, j < (pl R).length → σ.1 19 p j = iz (vx R (fd R j)) ∧ σ.1 20 p j = iz (vy R (fd R j)) ∧ σ.1 21 p j = nI (fd R j)
theorem SHw.fr {P : Nat → Nat → Nat → Prop} {σ τ : SS} {p : Nat} {R : Nat → Int} (h : SHw σ p R) (f : fri P σ τ) (hp : ∀ r k, 17 ≤ r → r ≤ 21 → r ≠ 18 → ¬ P r p k) : SHw τ p R := by
  refine ⟨by rw [f.1 17 p 4 (hp _ _ (by omega) (by omega) (by omega))]; exact h.1, fun j hj => ?_⟩
  rw [f.1 19 p j (hp _ _ (by omega) (by omega) (by omega)), f.1 20 p j (hp _ _ (by omega) (by omega) (by omega)), f.1 21 p j (hp _ _ (by omega) (by omega) (by omega))]
  exact h.2 j hj
theorem following_w {σ : SS} {p : Nat} {R : Nat → Int} (h : SHw σ p R) {j : Nat} (hj : j < (pl R).length) : f_X3_following p (nI j) σ = some (nI (fol (pl R).length j), σ) := by
  have h8 := pl_len R
  unfold f_X3_following fol
  rw [h.1, nI_1]
  by_cases q : j + 1 < (pl R).length
  · rw [if_neg (nI_ge q (by omega)), if_pos q]
  · rw [if_pos (nI_le (by omega) (by omega)), if_neg q]
    rfl
def P2 (p q : Nat) (r i _k : Nat) : Prop := r = 18 ∧ (i = p ∨ i = q)
theorem split_loop {E T : Nat → Int} (hF : Fit E T) (hT : ∀ k, k < 8 → T k ≤ 8000) {p q w : Nat} (hpq : p ≠ q) (hw : w < 8) {C : Int} (hC : C % 2 = 0) (h1 : -T (opp w) < C) (h2 : C < T w) : ∀ (s t fuel : Nat) (σ : SS) (r r' : Nat → Int), t + s = (pl T).length → s < fuel → SHw σ p T → RB σ p r → RB σ q r' → Iu T w C t r → Iu T (opp w) (-C) t r' → ∃ σ' r r', f_X3_splitAt_11 fuel p (nI w) (iz C) q (nI t) σ = f_X3_splitAt_228 p q σ' ∧ RB σ' p r ∧ RB σ' q r' ∧ Iu T w C (pl T).length r ∧ Iu T (opp w) (-C) (pl T).length r' ∧ fri (P2 p q) σ σ' := by
  have h8 := pl_len T
  have ow := opp_lt w hw
  have Tw := hT w hw
  have To := hT _ ow
  intro s
  induction s with
  | zero =>
    intro t fuel σ r r' ht hf hS hr hr' hI hI'
    obtain ⟨f, rfl⟩ : ∃ f, fuel = f + 1 := ⟨fuel - 1, by omega⟩
    have : t = (pl T).length := by omega
    subst this
    rw [f_X3_splitAt_11, hS.1, if_pos (nI_le (by omega) (by omega))]
    exact ⟨σ, r, r', rfl, hr, hr', hI, hI', fri.rf _ _⟩
  | succ s ih =>
    intro t fuel σ r r' ht hf hS hr hr' hI hI'
    obtain ⟨f, rfl⟩ : ∃ f, fuel = f + 1 := ⟨fuel - 1, by omega⟩
    have htl : t < (pl T).length := by omega
    have hfl := fol_lt htl
    have hd := fd_lt htl
    have hn := nxt_lt _ hd
    obtain ⟨g1, g2⟩ := n8 (show t < 8 by omega)
    obtain ⟨g3, g4⟩ := n8 (show fol (pl T).length t < 8 by omega)
    obtain ⟨a1, a2, -⟩ := hS.2 t htl
    obtain ⟨b1, b2, -⟩ := hS.2 _ hfl
    obtain ⟨c1, c2⟩ := pl_fol htl
    rw [← c1] at b1
    rw [← c2] at b2
    -- bounds
    have vin := fit_v hF _ hd
    have nin := fit_v hF _ hn
    have x0 := vin 0 (by decide)
    have x4 := vin 4 (by decide)
    have y1 := vin 1 (by decide)
    have y5 := vin 5 (by decide)
    have X0 := nin 0 (by decide)
    have X4 := nin 4 (by decide)
    have Y1 := nin 1 (by decide)
    have Y5 := nin 5 (by decide)
    have t0 := hT 0 (by decide)
    have t1 := hT 1 (by decide)
    have t4 := hT 4 (by decide)
    have t5 := hT 5 (by decide)
    simp only [mz] at x0 x4 y1 y5 X0 X4 Y1 Y5
    have m1 := vin w hw
    have m2 := vin _ ow
    have n1 := nin w hw
    have n2 := nin _ ow
    rw [mz_opp _ _ w hw] at m2 n2
    have pbV : pb (vx T (fd T t)) (vy T (fd T t)) := ⟨⟨by omega, by omega⟩, by omega, by omega⟩
    generalize hh : mz w (vx T (fd T t)) (vy T (fd T t)) - C = h
    generalize ha : mz w (vx T (nxt (fd T t))) (vy T (nxt (fd T t))) - C = a
    have bh : -16000 ≤ h ∧ h ≤ 16000 := by omega
    have ba : -16000 ≤ a ∧ a ≤ 16000 := by omega
    have B0 : bd 0 := ⟨by decide, by decide⟩
    have Bh : bd h := ⟨by omega, by omega⟩
    have Ba : bd a := ⟨by omega, by omega⟩
    have hp0 : (0 : Int32) < iz h ↔ 0 < h := iz_lt B0 Bh
    have hn0 : iz h < (0 : Int32) ↔ h < 0 := iz_lt Bh B0
    have hl0 : iz h ≤ (0 : Int32) ↔ h ≤ 0 := iz_le Bh B0
    have hg0 : (0 : Int32) ≤ iz h ↔ 0 ≤ h := iz_le B0 Bh
    have ap0 : (0 : Int32) < iz a ↔ 0 < a := iz_lt B0 Ba
    have ag0 : (0 : Int32) ≤ iz a ↔ 0 ≤ a := iz_le B0 Ba
    -- stage A
    have sA : ∃ σ1 r1, f_X3_splitAt_11 (f + 1) p (nI w) (iz C) q (nI t) σ = f_X3_splitAt_95 (f_X3_splitAt_11 f) p (nI w) (iz C) q (nI t) (nI (fol (pl T).length t)) (iz h) (iz a) σ1 ∧ RB σ1 p r1 ∧ ((mz w (vx T (fd T t)) (vy T (fd T t)) ≤ C ∧ r1 = mx r (vx T (fd T t)) (vy T (fd T t))) ∨ (¬ mz w (vx T (fd T t)) (vy T (fd T t)) ≤ C ∧ r1 = r)) ∧ fri (P18 p) σ σ1 := by
      rw [f_X3_splitAt_11, hS.1, if_neg (nI_ge htl (by omega)), following_w hS htl, cal_some, chk_p g1, chk_p g1, g2, a1, a2, p_measure hw, cal_some, lt_eq, iz_sub, chk_p g3, chk_p g3, g4, b1, b2, p_measure hw, cal_some, lt_eq, iz_sub, hh, ha]
      by_cases q0 : 0 < h
      · rw [if_pos (hp0.mpr q0)]
        exact ⟨σ, r, rfl, hr, Or.inr ⟨by omega, rfl⟩, fri.rf _ _⟩
      · obtain ⟨σ1, z1, z2, z3⟩ := p_stretch hr pbV
        rw [if_neg (fun z => q0 (hp0.mp z)), chk_p g1, chk_p g1, a1, a2, z1, cal_some]
        exact ⟨σ1, _, rfl, z2, Or.inl ⟨by omega, rfl⟩, z3⟩
    obtain ⟨σ1, r1, A1, A2, A3, A4⟩ := sA
    have hS1 : SHw σ1 p T := hS.fr A4 (by intro r k _ _ _; unfold P18; omega)
    have hr1' : RB σ1 q r' := hr'.fr A4 (by intro k; unfold P18; omega)
    obtain ⟨a1', a2', -⟩ := hS1.2 t htl
    -- stage B
    have sB : ∃ σ2 r2, f_X3_splitAt_95 (f_X3_splitAt_11 f) p (nI w) (iz C) q (nI t) (nI (fol (pl T).length t)) (iz h) (iz a) σ1 = f_X3_splitAt_118 (f_X3_splitAt_11 f) p (nI w) (iz C) q (nI t) (nI (fol (pl T).length t)) (iz h) (iz a) σ2 ∧ RB σ2 q r2 ∧ ((mz (opp w) (vx T (fd T t)) (vy T (fd T t)) ≤ -C ∧ r2 = mx r' (vx T (fd T t)) (vy T (fd T t))) ∨ (¬ mz (opp w) (vx T (fd T t)) (vy T (fd T t)) ≤ -C ∧ r2 = r')) ∧ fri (P18 q) σ1 σ2 := by
      rw [f_X3_splitAt_95, mz_opp _ _ w hw]
      by_cases q0 : h < 0
      · rw [if_pos (hn0.mpr q0)]
        exact ⟨σ1, r', rfl, hr1', Or.inr ⟨by omega, rfl⟩, fri.rf _ _⟩
      · obtain ⟨σ2, z1, z2, z3⟩ := p_stretch hr1' pbV
        rw [if_neg (fun z => q0 (hn0.mp z)), chk_p g1, chk_p g1, g2, a1', a2', z1, cal_some]
        exact ⟨σ2, _, rfl, z2, Or.inl ⟨by omega, rfl⟩, z3⟩
    obtain ⟨σ2, r2, B1, B2, B3, B4⟩ := sB
    have hS2 : SHw σ2 p T := hS1.fr B4 (by intro r k _ _ _; unfold P18; omega)
    have A2' : RB σ2 p r1 := A2.fr B4 (by intro k; unfold P18; omega)
    obtain ⟨d1, d2, -⟩ := hS2.2 t htl
    obtain ⟨e1, e2, -⟩ := hS2.2 _ hfl
    rw [← c1] at e1
    rw [← c2] at e2
    have f02 : fri (P2 p q) σ σ2 := (A4.mono (fun r i k z => by unfold P18 at z; unfold P2; omega)).tr (B4.mono (fun r i k z => by unfold P18 at z; unfold P2; omega))
    rw [A1, B1]
    -- stage C
    have fin : ∀ σ3 r3 r3', RB σ3 p r3 → RB σ3 q r3' → Iu T w C (t + 1) r3 → Iu T (opp w) (-C) (t + 1) r3' → fri (P2 p q) σ σ3 → ∃ σ' r r', f_X3_splitAt_222 (f_X3_splitAt_11 f) p (nI w) (iz C) q (nI t) σ3 = f_X3_splitAt_228 p q σ' ∧ RB σ' p r ∧ RB σ' q r' ∧ Iu T w C (pl T).length r ∧ Iu T (opp w) (-C) (pl T).length r' ∧ fri (P2 p q) σ σ' := by
      intro σ3 r3 r3' z1 z2 z3 z4 z5
      obtain ⟨σ', u, u', y1, y2, y3, y4, y5, y6⟩ := ih (t + 1) f σ3 r3 r3' (by omega) (by omega) (hS.fr z5 (by intro r k _ _ _; unfold P2; omega)) z1 z2 z3 z4
      exact ⟨σ', u, u', by rw [f_X3_splitAt_222, lt_eq, nI_1]; exact y1, y2, y3, y4, y5, z5.tr y6⟩
    have no : ¬ Scr T w C (fd T t) → ∃ σ' r r', f_X3_splitAt_222 (f_X3_splitAt_11 f) p (nI w) (iz C) q (nI t) σ2 = f_X3_splitAt_228 p q σ' ∧ RB σ' p r ∧ RB σ' q r' ∧ Iu T w C (pl T).length r ∧ Iu T (opp w) (-C) (pl T).length r' ∧ fri (P2 p q) σ σ' := by
      intro hns
      exact fin σ2 r1 r2 A2' B2 (hI.step hw htl A3 (Or.inr ⟨hns, rfl⟩)) (hI'.step ow htl B3 (Or.inr ⟨fun z => hns ((scr_opp hw).mp z), rfl⟩)) f02
    have yes : Scr T w C (fd T t) → ∃ σ' r r', f_X3_splitAt_138 (f_X3_splitAt_11 f) p (nI w) (iz C) q (nI t) (nI (fol (pl T).length t)) (iz h) (iz a) σ2 = f_X3_splitAt_228 p q σ' ∧ RB σ' p r ∧ RB σ' q r' ∧ Iu T w C (pl T).length r ∧ Iu T (opp w) (-C) (pl T).length r' ∧ fri (P2 p q) σ σ' := by
      intro hs
      obtain ⟨x, y, k1, k2⟩ := cross_ex hF hC w hw _ hd hs
      obtain ⟨ex, ey⟩ := cross_at hw hd hs k1 k2
      rw [hh, ha] at ex ey
      have kp : Kp T w C x y := Or.inr ⟨fd T t, hd, k1, k2, hs⟩
      have kin := (kp_in hF hw kp).1
      have i0 := kin 0 (by decide)
      have i4 := kin 4 (by decide)
      have i1 := kin 1 (by decide)
      have i5 := kin 5 (by decide)
      simp only [mz] at i0 i4 i1 i5
      have pbX : pb x y := ⟨⟨by omega, by omega⟩, by omega, by omega⟩
      have ne : h - a ≠ 0 := by unfold Scr at hs; omega
      have Bha : bd (h - a) := ⟨by omega, by omega⟩
      have ne32 : ¬ iz h - iz a = 0 := by
        rw [iz_sub]
        intro z
        exact ne ((iz_eq (b := 0) Bha B0).mp z)
      have bx := mul_b (a := vx T (nxt (fd T t)) - vx T (fd T t)) (b := h) (A := 16000) (B := 16000) ⟨by omega, by omega⟩ bh
      have by' := mul_b (a := vy T (nxt (fd T t)) - vy T (fd T t)) (b := h) (A := 16000) (B := 16000) ⟨by omega, by omega⟩ bh
      have Ex : iz (vx T (fd T t)) + (iz (vx T (nxt (fd T t))) - iz (vx T (fd T t))) * iz h / (iz h - iz a) = iz x := by
        rw [iz_sub, iz_sub, iz_mul, iz_div ⟨by omega, by omega⟩ Bha, iz_add, ex]
      have Ey : iz (vy T (fd T t)) + (iz (vy T (nxt (fd T t))) - iz (vy T (fd T t))) * iz h / (iz h - iz a) = iz y := by
        rw [iz_sub, iz_sub, iz_mul, iz_div ⟨by omega, by omega⟩ Bha, iz_add, ey]
      obtain ⟨σ3, z1, z2, z3⟩ := p_stretch A2' pbX
      obtain ⟨σ4, y1, y2, y3⟩ := p_stretch (B2.fr z3 (by intro k; unfold P18; omega)) pbX
      have hs' : Scr T (opp w) (-C) (fd T t) := (scr_opp hw).mpr hs
      have k2' : mz (opp w) x y = -C := by rw [mz_opp _ _ w hw, k2]
      rw [f_X3_splitAt_138, chk_p g1, chk_p g3, chk_p g1, chk_p ne32, g2, g4, d1, e1, Ex, lt_eq, chk_p g1, chk_p g3, chk_p g1, chk_p ne32, d2, e2, Ey, lt_eq, z1, cal_some, y1, cal_some]
      exact fin σ4 _ _ (z2.fr y3 (by intro k; unfold P18; omega)) y2 (hI.step hw htl A3 (Or.inl ⟨hs, x, y, k1, k2, rfl⟩)) (hI'.step ow htl B3 (Or.inl ⟨hs', x, y, k1, k2', rfl⟩)) (f02.tr ((z3.mono (fun r i k z => by unfold P18 at z; unfold P2; omega)).tr (y3.mono (fun r i k z => by unfold P18 at z; unfold P2; omega))))
    have scr : Scr T w C (fd T t) ↔ (h < 0 ∧ 0 < a) ∨ (0 < h ∧ a < 0) := by unfold Scr; omega
    have e128 : f_X3_splitAt_128 (f_X3_splitAt_11 f) p (nI w) (iz C) q (nI t) (nI (fol (pl T).length t)) (iz h) (iz a) σ2 = if h ≤ 0 then f_X3_splitAt_222 (f_X3_splitAt_11 f) p (nI w) (iz C) q (nI t) σ2 else if 0 ≤ a then f_X3_splitAt_222 (f_X3_splitAt_11 f) p (nI w) (iz C) q (nI t) σ2 else f_X3_splitAt_138 (f_X3_splitAt_11 f) p (nI w) (iz C) q (nI t) (nI (fol (pl T).length t)) (iz h) (iz a) σ2 := by
      rw [f_X3_splitAt_128]
      simp only [hl0, ag0]
    rw [f_X3_splitAt_118]
    simp only [hg0, ap0]
    rw [e128]
    by_cases k1 : 0 ≤ h
    · rw [if_pos k1]
      by_cases k2 : h ≤ 0
      · rw [if_pos k2]
        exact no (by rw [scr]; omega)
      · rw [if_neg k2]
        by_cases k3 : 0 ≤ a
        · rw [if_pos k3]
          exact no (by rw [scr]; omega)
        · rw [if_neg k3]
          exact yes (scr.mpr (by omega))
    · rw [if_neg k1]
      by_cases k2 : 0 < a
      · rw [if_pos k2]
        exact yes (scr.mpr (by omega))
      · rw [if_neg k2, if_pos (by omega)]
        exact no (by rw [scr]; omega)
theorem cut_sm {E T : Nat → Int} (hF : Fit E T) (hT : ∀ k, k < 8 → T k ≤ 8000) {w : Nat} (hw : w < 8) {C : Int} (hC : C % 2 = 0) (h1 : -T (opp w) < C) (h2 : C < T w) : (∀ k, k < 8 → cutT T w C k ≤ 8000) ∧ Sm (cutT T w C) ∧ Good (cutT T w C) := by
  have e : C = 2 * (C / 2) := by omega
  have f := fit_cut hF (c := C / 2) w hw (by omega) (by omega)
  rw [← e] at f
  have l := cutT_le T w hw (C := C) (by omega)
  have u : ∀ k, k < 8 → cutT T w C k ≤ 8000 := fun k hk => Int.le_trans (l k hk) (hT k hk)
  have s : Sm (cutT T w C) := by
    have a := of8 u
    have ww := f.2.1
    unfold Sm
    apply all8 <;> omega
  refine ⟨u, s, ?_⟩
  have ev := fit_even f
  refine ⟨f.1, f.2.1, fun k hk => ?_, fun k hk => ?_⟩
  · unfold Ez; omega
  · rcases f.2.2.2 k hk with q | q
    · left; unfold Ez; omega
    · by_cases q2 : cutT T w C k % 2 = 0
      · left; unfold Ez; omega
      · exact Or.inr q
theorem p_splitAt {E T : Nat → Int} (hF : Fit E T) (hT : ∀ k, k < 8 → T k ≤ 8000) {p q w : Nat} (hpq : p ≠ q) (hw : w < 8) {C : Int} (hC : C % 2 = 0) (h1 : -T (opp w) < C) (h2 : C < T w) {σ : SS} (hS : SH σ p T) : ∃ σ', f_X3_splitAt p (nI w) (iz C) q σ = some ((), σ') ∧ SH σ' p (cutT T w C) ∧ SH σ' q (cutT T (opp w) (-C)) ∧ fri (fun r i k => PSa p r i k ∨ PSa q r i k) σ σ' := by
  have ow := opp_lt w hw
  have oo := opp_opp w hw
  have hw0 : SHw σ p T := hS.2
  obtain ⟨σ1, a1, a2, a3⟩ := p_clear σ p
  obtain ⟨σ2, b1, b2, b3⟩ := p_clear σ1 q
  have hS1 : SHw σ1 p T := hw0.fr a3 (by intro r k _ _ _; unfold P18; omega)
  have hS2 : SHw σ2 p T := hS1.fr b3 (by intro r k _ _ _; unfold P18; omega)
  have a2' : RB σ2 p mnR := a2.fr b3 (by intro k; unfold P18; omega)
  have I0 : ∀ w C, Iu T w C 0 mnR := fun w C => ⟨fun j hj => absurd hj (Nat.not_lt_zero _), fun j hj => absurd hj (Nat.not_lt_zero _), fun k _ => Or.inl rfl⟩
  have h8 := pl_len T
  obtain ⟨σ3, r, r', c1, c2, c3, c4, c5, c6⟩ := split_loop hF hT hpq hw hC h1 h2 (pl T).length 0 FU σ2 mnR mnR (by omega) (by show (pl T).length < 5000; omega) hS2 a2' b2 (I0 _ _) (I0 _ _)
  obtain ⟨u1, u2, -⟩ := cut_sm hF hT hw hC h1 h2
  obtain ⟨v1, v2, -⟩ := cut_sm hF hT ow (C := -C) (by omega) (by rw [oo]; omega) (by omega)
  have R1 := c4.fin hF hw hC h1 h2 (fun k hk => by have := (u2 k hk).1; omega)
  have R2 := c5.fin hF ow (C := -C) (by omega) (by rw [oo]; omega) (by omega) (fun k hk => by have := (v2 k hk).1; omega)
  obtain ⟨σ4, d1, d2, d3⟩ := p_settle (p := p) (σ := σ3) u2 (fun k hk => by rw [(c2 k hk).1, R1 k hk])
  obtain ⟨σ5, e1, e2, e3⟩ := p_settle (p := q) (σ := σ4) v2 (fun k hk => by rw [d3.1 18 q k (by unfold PSh; omega), (c3 k hk).1, R2 k hk])
  refine ⟨σ5, ?_, ?_, e2, ?_⟩
  · rw [f_X3_splitAt, a1, cal_some, b1, cal_some, ← nI_0, c1, f_X3_splitAt_228, d1, cal_some, e1, cal_some]
  · refine ⟨fun k hk => ?_, SHw.fr (p := p) d2.2 e3 (by intro r k _ _ _; unfold PSh; omega)⟩
    rw [e3.1 18 p k (by unfold PSh; omega)]
    exact d2.1 k hk
  · refine (a3.mono (fun r i k z => Or.inl (Or.inl z))).tr ((b3.mono (fun r i k z => Or.inr (Or.inl z))).tr ((c6.mono (fun r i k z => ?_)).tr ((d3.mono (fun r i k z => Or.inl (Or.inr z))).tr (e3.mono (fun r i k z => Or.inr (Or.inr z))))))
    obtain ⟨z1, z2⟩ := z
    rcases z2 with z2 | z2
    · exact Or.inl (Or.inl ⟨z1, z2⟩)
    · exact Or.inr (Or.inl ⟨z1, z2⟩)
