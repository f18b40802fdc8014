/-! ===== PURE: cut() ===== -/
theorem p_crossed {σ : SS} {p : Nat} {R : Nat → Int} (hR : ∀ k, k < 8 → σ.1 18 p k = iz (R k)) (hm : Sm R) {w : Nat} (hw : w < 8) {C : Int} (hC : -10000 ≤ C ∧ C ≤ 10000) : f_X3_isCrossedBy p (nI w) (iz C) σ = some (if C < R w ∧ -C < R (opp w) then 1 else 0, σ) := by
  obtain ⟨g1, g2⟩ := n8 hw
  obtain ⟨g3, g4⟩ := n8 (opp_lt w hw)
  have b1 := hm w hw
  have b2 := hm _ (opp_lt w hw)
  have c1 : iz (R w) ≤ iz C ↔ R w ≤ C := iz_le ⟨by omega, by omega⟩ ⟨by omega, by omega⟩
  have c2 : iz (R (opp w)) ≤ iz (-C) ↔ R (opp w) ≤ -C := iz_le ⟨by omega, by omega⟩ ⟨by omega, by omega⟩
  rw [f_X3_isCrossedBy, chk_p g1, g2, hR w hw]
  by_cases q1 : R w ≤ C
  · rw [if_pos (c1.mpr q1), if_neg (show ¬ (C < R w ∧ -C < R (opp w)) by omega)]
  · rw [if_neg (fun z => q1 (c1.mp z)), p_opposite hw, cal_some, chk_p g3, g4, hR _ (opp_lt w hw), iz_neg]
    by_cases q2 : R (opp w) ≤ -C
    · rw [if_pos (c2.mpr q2), if_neg (show ¬ (C < R w ∧ -C < R (opp w)) by omega)]
    · rw [if_neg (fun z => q2 (c2.mp z)), if_pos (show C < R w ∧ -C < R (opp w) by omega)]
theorem cut7_run {v1 v2 v3 x A B : Int32} {p n : Nat} {σ σa σb σc : SS} (p4 : f_X6_find v1 σ = some (some p, σ)) (q1 : (0 : Int32) ≤ v2 ∧ v2 ≤ 3) (q2 : (-4000 : Int32) ≤ v3 ∧ v3 ≤ 4000) (cr : f_X3_isCrossedBy p v2 ((2 : Int32) * v3) σ = some (1, σ)) (hf : f_X6_isFull σ = some (0, σ)) (e1 : σ.1 1 0 1 = x) (eA : σ.1 16 p 2 = A) (eB : σ.1 16 p 1 = B) (a1 : f_X6_add A B σ = some (some n, σa)) (b1 : f_X2_keep v1 (some p) x σa = some ((), σb)) (c1 : f_X3_splitAt p v2 ((2 : Int32) * v3) n σb = some ((), σc)) : f_X7_cut v1 v2 v3 σ = some (x, σc) := by
  rw [f_X7_cut, p4, cal_some, oel_s, p_isFrom, cal_some, if_pos q1, if_neg (show ¬ (1 : Int32) = 0 by decide), p_isFrom, cal_some, if_pos q2, if_neg (show ¬ (1 : Int32) = 0 by decide), cr, cal_some, if_neg (show ¬ (1 : Int32) = 0 by decide), hf, cal_some, if_pos rfl, lt_eq, e1, eA, eB, a1, cal_some, b1, cal_some, oel_s, c1, cal_some]
theorem cut8_run {v1 v2 v3 x v4 M1 M2 A B : Int32} {p n w4 : Nat} {σ σt σk σe σf σg : SS} (p5 : f_X8_isPiece v1 σ = some (1, σ)) (q1 : (0 : Int32) ≤ v2 ∧ v2 ≤ 3) (q2 : (-4000 : Int32) ≤ v3 ∧ v3 ≤ 4000) (tk : f_X8_takes v1 σ = some ((), σt)) (m1 : f_X8_most v2 σt = some (M1, σt)) (n1 : ¬ M1 ≤ (2 : Int32) * v3) (m2 : f_X8_most (v2 + (4 : Int32)) σt = some (M2, σt)) (n2 : (-2 : Int32) * v3 < M2) (nf : ¬ σt.1 25 0 6 = (60 : Int32)) (k1 : f_X8_keep (3 : Int32) v1 σt = some ((), σk)) (ex : σk.1 25 0 6 = x) (ix1 : inr x 60) (ixv : ix x = n) (iv1 : inr v1 60) (ivp : ix v1 = p) (i4 : inr (v2 + (4 : Int32)) 8) (e4 : ix (v2 + (4 : Int32)) = w4) (e50 : σk.1 50 0 p = A) (e49 : σk.1 49 0 p = B) (hpn : p ≠ n) (hσe : up (up (up (up (up (up σk 25 0 6 (x + (1 : Int32))) 47 0 n (1 : Int32)) 51 0 n (0 : Int32)) 50 0 n A) 49 0 n B) 53 0 w4 (-v3) = σe) (kp : f_X8_keeps x σe = some ((), σf)) (fin : f_X8_cut_164 FU v1 v2 v3 x (0 : Int32) σf = some (v4, σg)) : f_X8_cut v1 v2 v3 σ = some (v4, σg) := by
  have r50 : (up (up (up σk 25 0 6 (x + (1 : Int32))) 47 0 n (1 : Int32)) 51 0 n (0 : Int32)).1 50 0 p = A := by
    rw [up_rd, if_neg (by omega), up_rd, if_neg (by omega), up_rd, if_neg (by omega), e50]
  have r49 : (up (up (up (up σk 25 0 6 (x + (1 : Int32))) 47 0 n (1 : Int32)) 51 0 n (0 : Int32)) 50 0 n A).1 49 0 p = B := by
    rw [up_rd, if_neg (by omega), up_rd, if_neg (by omega), up_rd, if_neg (by omega), up_rd, if_neg (by omega), e49]
  rw [f_X8_cut, p5, cal_some, if_neg (show ¬ (1 : Int32) = 0 by decide), c64_0, c64_3, p_in, cal_some, if_pos q1, if_neg (show ¬ (1 : Int32) = 0 by decide), c64_m4000, c64_4000, p_in, cal_some, if_pos q2, if_neg (show ¬ (1 : Int32) = 0 by decide), tk, cal_some, m1, cal_some, if_neg n1, m2, cal_some, if_pos n2, if_neg nf, k1, cal_some, lt_eq, ex, lt_eq, chk_p ix1, ixv, lt_eq, chk_p ix1, lt_eq, chk_p iv1, chk_p ix1, ivp, r50, lt_eq, chk_p iv1, chk_p ix1, r49, lt_eq, chk_p i4, e4, lt_eq, hσe, kp, cal_some, fin]
theorem c164_loop {p : Nat} (hp : p < 60) {v2 v3 v4 : Int32} {E : Nat → Int} : ∀ (s t fuel : Nat) (σ : SS), t + s = 8 → s < fuel → BD σ p E → (∀ k, k < t → σ.1 53 0 k = iz (E k)) → ∃ σ', f_X8_cut_164 fuel (nI p) v2 v3 v4 (nI t) σ = f_X8_cut_196 (nI p) v2 v3 v4 σ' ∧ (∀ k, k < 8 → σ'.1 53 0 k = iz (E k)) ∧ fri P53 σ σ' := by
  intro s
  induction s with
  | zero =>
    intro t fuel σ ht hf hB hb
    obtain ⟨f, rfl⟩ : ∃ f, fuel = f + 1 := ⟨fuel - 1, by omega⟩
    have : t = 8 := by omega
    subst this
    rw [f_X8_cut_164, if_pos (by decide)]
    exact ⟨σ, rfl, hb, fri.rf _ _⟩
  | succ s ih =>
    intro t fuel σ ht hf hB hb
    obtain ⟨f, rfl⟩ : ∃ f, fuel = f + 1 := ⟨fuel - 1, by omega⟩
    have h8 : t < 8 := by omega
    obtain ⟨n1, n2, n3⟩ := n480 hp h8
    obtain ⟨g1, g2⟩ := n8 h8
    have f1 : fri P53 σ (up σ 53 0 t (iz (E t))) := fri.up (fri.rf _ _) rfl
    rw [f_X8_cut_164, if_neg (le8 h8), n1, chk_p n2, chk_p g1, n3, g2, hB t h8, lt_eq, lt_eq, nI_1]
    obtain ⟨σ', q1, q2, q3⟩ := ih (t + 1) f (up σ 53 0 t (iz (E t))) (by omega) (by omega) (fun k hk => by rw [f1.1 48 0 _ (by unfold P53; omega)]; exact hB k hk) (fun k hk => by
      by_cases q : k = t
      · rw [q]
        simp only [up_rd, and_self, if_true]
      · rw [up_rd, if_neg (by omega)]
        exact hb k (by omega))
    exact ⟨σ', q1, q2, f1.tr q3⟩
theorem PH.scr {σ τ : SS} {n : Nat} {R : Nat → Nat → Int} {th og : Nat → Nat} {ex : Nat → Bool} {ba : Nat → Int} (h : PH σ n R th og ex ba) (f : fri PN σ τ) : PH τ n R th og ex ba := by
  obtain ⟨h1, m, la, so, pc, nb, Ro, k7, k8, kv⟩ := h
  refine ⟨h1.fr f PN_pc, m, la, so, pc, nb, Ro, k7.fr f.1 ?_, k8.fr f.1 ?_, kv⟩
  · intro r k; unfold PH7 PN PT PG PO PTw; omega
  · intro r k; unfold PH8 PN PT PG PO PTw; omega
theorem MU.scr {σ σ2 : SS} {hd : Nat → Prop} {n : Nat} {R : Nat → Nat → Int} {th og : Nat → Nat} {ex : Nat → Bool} {ba : Nat → Int} (h : PH σ n R th og ex ba) {F7 F8 : SS → Option (Int32 × SS)} {r : Int32} (h1 : F7 σ = some (r, σ)) (h2 : F8 σ = some (r, σ2)) (f : fri PN σ σ2) : MU σ hd n ex F7 F8 := ⟨r, σ, σ2, h1, h2, f.p.mono (fun _ _ _ z => Or.inr (Or.inr (Or.inr z))), n, R, th, og, ex, ba, h.scr f, fun _ a b _ => ⟨a, b⟩⟩
theorem w4_f : ∀ w, w < 4 → nI w + (4 : Int32) = nI (opp w) ∧ opp w = w + 4 := by decide +kernel
theorem updz_EB {σ : SS} {e : Nat → Int} (h : ∀ k, k < 8 → σ.1 53 0 k = iz (e k)) (hb : ∀ k, k < 8 → -10000 ≤ e k ∧ e k ≤ 10000) {w : Nat} {c : Int} (hc : -10000 ≤ c ∧ c ≤ 10000) : EB (up σ 53 0 w (iz c)) (updz e w c) := by
  intro k hk
  unfold updz
  by_cases q : k = w
  · rw [q]
    simp only [up_rd, and_self, if_true]
    exact ⟨trivial, hc⟩
  · rw [up_rd, if_neg (by omega), if_neg q]
    exact ⟨h k hk, hb k hk⟩
theorem q_cut {σ : SS} (hM : MTb σ) {n : Nat} {R : Nat → Nat → Int} {th og : Nat → Nat} {ex : Nat → Bool} {ba : Nat → Int} (hh : PH σ n R th og ex ba) (hd : Nat → Prop) (v1 v2 v3 : Int32) : MU σ hd n ex (f_X7_cut v1 v2 v3) (f_X8_cut v1 v2 v3) := by
  have h := hh.1
  have hn := h.1.1
  rcases h.find v1 with ⟨p, p1, rfl, p3, p4, p5⟩ | ⟨p4, p5⟩
  · by_cases q1 : (0 : Int32) ≤ v2 ∧ v2 ≤ 3
    · by_cases q2 : (-4000 : Int32) ≤ v3 ∧ v3 ≤ 4000
      · obtain ⟨w, -, w2, rfl⟩ := in_of (m := 0) (M := 3) (by decide) (by decide) q1
        obtain ⟨c, cl, ch, rfl⟩ := in_z q2
        have z1 : (-4000 : Int32).toInt = -4000 := by decide
        have z2 : (4000 : Int32).toInt = 4000 := by decide
        rw [z1] at cl
        rw [z2] at ch
        have hw4 : w < 4 := by omega
        have hw : w < 8 := by omega
        have how := opp_lt w hw
        obtain ⟨o4, ow⟩ := w4_f w hw4
        obtain ⟨⟨g, s⟩, ⟨hS, hB⟩, ht, hog, ⟨x1, x2⟩, hib, hba⟩ := h.2.2 p p1
        have hsm := good_sm g s
        have eb := ez_b g s
        have hp60 : p < 60 := by omega
        have e2c : (2 : Int32) * iz c = iz (2 * c) := by rw [iz2, iz_mul]
        have em2c : (-2 : Int32) * iz c = iz (-(2 * c)) := by
          have : (-2 : Int32) = iz (-2) := by decide
          rw [this, iz_mul, show -2 * c = -(2 * c) by omega]
        have crs1 := p_crossed hS.1 hsm hw (C := 2 * c) ⟨by omega, by omega⟩
        obtain ⟨σt, ps, t1, t2, t3, t4, t5, t6⟩ := p_takes g hM hp60 hB (ez_b' g s)
        have hMt : MTb σt := hM.fr t6 (fun r k h1 h2 => PT_m h1 h2)
        have mo1 := p_most g hMt t3 t4 hw
        have mo2 := p_most g hMt t3 t4 how
        have bw := hsm w hw
        have bo := hsm _ how
        have d1 : iz (R p w) ≤ iz (2 * c) ↔ R p w ≤ 2 * c := iz_le ⟨by omega, by omega⟩ ⟨by omega, by omega⟩
        have d2 : iz (-(2 * c)) < iz (R p (opp w)) ↔ -(2 * c) < R p (opp w) := iz_lt ⟨by omega, by omega⟩ ⟨by omega, by omega⟩
        by_cases qc : 2 * c < R p w ∧ -(2 * c) < R p (opp w)
        · rw [if_pos qc] at crs1
          by_cases qf : n = 60
          · have e7 : σ.1 1 0 1 = nI 60 := by rw [← qf]; exact h.2.1.1
            have e8 : σt.1 25 0 6 = nI 60 := by rw [t6.1 25 0 6 (by unfold PT PG; omega), ← qf]; exact h.2.1.2.1
            refine MU.scr hh (r := -3) (σ2 := σt) ?_ ?_ (t6.mono (fun _ _ _ => PN_of_PT))
            · rw [f_X7_cut, p4, cal_some, oel_s, p_isFrom, cal_some, if_pos q1, if_neg (show ¬ (1 : Int32) = 0 by decide), p_isFrom, cal_some, if_pos q2, if_neg (show ¬ (1 : Int32) = 0 by decide), e2c, crs1, cal_some, if_neg (show ¬ (1 : Int32) = 0 by decide), f_X6_isFull, e7, if_neg (by decide), cal_some, if_neg (by decide)]
            · rw [f_X8_cut, p5, cal_some, if_neg (show ¬ (1 : Int32) = 0 by decide), c64_0, c64_3, p_in, cal_some, if_pos q1, if_neg (show ¬ (1 : Int32) = 0 by decide), c64_m4000, c64_4000, p_in, cal_some, if_pos q2, if_neg (show ¬ (1 : Int32) = 0 by decide), t1, cal_some, mo1, cal_some, e2c, if_neg (fun z => by have := d1.mp z; omega), o4, mo2, cal_some, em2c, if_pos (d2.mpr qc.2), e8, if_pos (by decide)]
          · have hn6 : n < 60 := by omega
            obtain ⟨m, la, so, pc, nb, Ro, k7, k8, kv⟩ := hh.2
            obtain ⟨gi1, gi2⟩ := n60 hn6
            obtain ⟨gp1, gp2⟩ := n60 hp60
            -- the class
            obtain ⟨σa, a1, ⟨a2, a3, a4, a5⟩, a6, a7⟩ := p_add (og := og p) (th := th p) h.2.1.1 hn6 h.1.2
            have k7a : H7 σa m la so pc nb Ro := k7.fr a7.1 (by intro r k; unfold PH7 PAd; omega)
            have hSa : SH σa p (R p) := by
              refine ⟨fun k hk => ?_, ?_, fun j hj => ?_⟩
              · rw [a7.1 18 p k (by unfold PAd; omega)]; exact hS.1 k hk
              · rw [a7.1 17 p 4 (by unfold PAd; omega)]; exact hS.2.1
              · rw [a7.1 19 p j (by unfold PAd; omega), a7.1 20 p j (by unfold PAd; omega), a7.1 21 p j (by unfold PAd; omega)]; exact hS.2.2 j hj
            obtain ⟨σb, b1, b2, b3⟩ := p_keep7 (n' := n + 1) k7a (s := 3) (p := p) (b := n) (Rn := R p) kv.1 (by omega) (fun _ => hSa.1)
            have h3v : hcv 3 p = nI p := rfl
            have f3v : hfv 3 n = nI n := rfl
            rw [h3v, f3v, if_neg (show ¬ 3 = 1 by decide)] at b1
            have hSb : SH σb p (R p) := by
              refine ⟨fun k hk => ?_, ?_, fun j hj => ?_⟩
              · rw [b3.1 18 p k (by unfold PH7; omega)]; exact hSa.1 k hk
              · rw [b3.1 17 p 4 (by unfold PH7; omega)]; exact hSa.2.1
              · rw [b3.1 19 p j (by unfold PH7; omega), b3.1 20 p j (by unfold PH7; omega), b3.1 21 p j (by unfold PH7; omega)]; exact hSa.2.2 j hj
            obtain ⟨σ1, c1, c2, c3, c4⟩ := p_splitAt g s (p := p) (q := n) (w := w) (by omega) hw (C := 2 * c) (by omega) (by omega) qc.1 hSb
            have run7 : f_X7_cut (nI p) (nI w) (iz c) σ = some (nI n, σ1) := by
              refine cut7_run p4 q1 q2 (by rw [e2c]; exact crs1) ?_ h.2.1.1 hog.2.1 ht.2.1 a1 b1 (by rw [e2c]; exact c1)
              rw [f_X6_isFull, h.2.1.1, if_pos (show nI n < (60 : Int32) from nI_lt (b := 60) hn6 (by decide))]
            have f1 : frp (fun r i k => PAd n r i k ∨ PH7 r i k ∨ PSa p r i k ∨ PSa n r i k) σ σ1 := (a7.mono (fun _ _ _ z => Or.inl z)).tr ((b3.p.mono (fun _ _ _ z => Or.inr (Or.inl z))).tr (c4.p.mono (fun _ _ _ z => Or.inr (Or.inr z))))
            have m1 : ∀ r i k, 25 ≤ r → σ1.1 r i k = σ.1 r i k := fun r i k hr => f1.1 r i k (by unfold PAd PH7 PSa P18 PSh; omega)
            -- the model, from σ1
            have i1 : f_X8_isPiece (nI p) σ1 = some (1, σ1) := by
              have := p_isPiece (σ := σ1) (by rw [m1 25 0 6 (by decide)]; exact h.2.1.2.1) hn p1 (ex := ex p) (by rw [m1 47 0 p (by decide)]; exact x2)
              rw [p3] at this
              exact this
            have hM1 : MTb σ1 := hM.eq (fun r k h1 h2 => m1 r 0 k (by omega))
            have hB1 : BD σ1 p (Ez (R p)) := fun k hk => by rw [m1 48 0 _ (by decide)]; exact hB k hk
            clear t1 t2 t3 t4 t5 t6 hMt mo1 mo2
            obtain ⟨σt, ps, t1, t2, t3, t4, t5, t6⟩ := p_takes g hM1 hp60 hB1 (ez_b' g s)
            have hMt : MTb σt := hM1.fr t6 (fun r k h1 h2 => PT_m h1 h2)
            have mo1 := p_most g hMt t3 t4 hw
            have mo2 := p_most g hMt t3 t4 how
            have k8t : H8 σt m so pc Ro := (k8.fr f1.1 (by intro r k; unfold PH8 PAd PH7 PSa P18 PSh; omega)).fr t6.1 (by intro r k; unfold PH8 PT PG; omega)
            have hBt : BD σt p (Ez (R p)) := hB1.fr t6 (fun k => PT_48)
            obtain ⟨σk, u1, u2, u3⟩ := p_keep8 k7.1.1 k8t (s := 3) (p := p) hp60 (Rn := R p) ⟨Ez (R p), hBt, fun _ _ _ => rfl⟩
            have mk : ∀ r k, (r = 25 ∧ k = 6) ∨ (47 ≤ r ∧ r ≤ 52) → σk.1 r 0 k = σ.1 r 0 k := fun r k hr => by rw [u3.1 r 0 k (by unfold PH8; omega), t6.1 r 0 k (by unfold PT PG; omega), m1 r 0 k (by omega)]
            have ek : ∀ k, k < 8 → σk.1 53 0 k = iz (Ez (R p) k) := fun k hk => by rw [u3.1 53 0 k (by unfold PH8; omega)]; exact (t5 k hk).1
            have hMk : MTb σk := hMt.fr u3 (by intro r k _ _; unfold PH8; omega)
            generalize hσu : up (up (up (up (up σk 25 0 6 (nI (n + 1))) 47 0 n 1) 51 0 n 0) 50 0 n (nI (og p))) 49 0 n (nI (th p)) = σu
            have fu : fri (fun r i k => (r = 25 ∧ k = 6) ∨ ((r = 47 ∨ (49 ≤ r ∧ r ≤ 51)) ∧ k = n)) σk σu := by
              rw [← hσu]
              refine fri.up (fri.up (fri.up (fri.up (fri.up (fri.rf _ _) ?_) ?_) ?_) ?_) ?_ <;> omega
            have cu : σu.1 25 0 6 = nI (n + 1) ∧ σu.1 47 0 n = 1 ∧ σu.1 51 0 n = 0 ∧ σu.1 50 0 n = nI (og p) ∧ σu.1 49 0 n = nI (th p) := by
              rw [← hσu]
              refine ⟨?_, ?_, ?_, ?_, ?_⟩ <;> simp (config := { decide := true }) only [up_rd, and_self, if_true, false_and, if_false]
            have hE1 : EB (up σu 53 0 (opp w) (iz (-c))) (updz (Ez (R p)) (opp w) (-c)) := updz_EB (fun k hk => by rw [fu.1 53 0 k (by omega)]; exact ek k hk) (ez_b' g s) ⟨by omega, by omega⟩
            have fv : fri (fun r i k => ((r = 25 ∧ k = 6) ∨ ((r = 47 ∨ (49 ≤ r ∧ r ≤ 51)) ∧ k = n)) ∨ P53 r i k) σk (up σu 53 0 (opp w) (iz (-c))) := fri.up (fu.mono (fun _ _ _ z => Or.inl z)) (Or.inr rfl)
            have hMv : MTb (up σu 53 0 (opp w) (iz (-c))) := hMk.fr fv (by intro r k _ _; unfold P53; omega)
            have F1 := fit_cut g (c := -c) (opp w) how (by rw [opp_opp w hw]; omega) (by omega)
            rw [show 2 * -c = -(2 * c) by omega] at F1
            generalize hσv : up σu 53 0 (opp w) (iz (-c)) = σv at hE1 fv hMv
            obtain ⟨σf, y1, y2, y3⟩ := p_keeps F1 hMv hE1 hn6
            have hBf : BD σf p (Ez (R p)) := fun k hk => by rw [y3.1 48 0 _ (by unfold PG PBd; omega), fv.1 48 0 _ (by unfold P53; omega), u3.1 48 0 _ (by unfold PH8; omega)]; exact hBt k hk
            obtain ⟨σx, l1, l2, l3⟩ := c164_loop (v2 := nI w) (v3 := iz c) (v4 := nI n) hp60 8 0 FU σf rfl (by show 8 < 5000; omega) hBf (fun k hk => absurd hk (Nat.not_lt_zero _))
            have hE2 : EB (up σx 53 0 w (iz c)) (updz (Ez (R p)) w c) := updz_EB l2 (ez_b' g s) ⟨by omega, by omega⟩
            have fy : fri P53 σf (up σx 53 0 w (iz c)) := fri.up l3 rfl
            have hMy : MTb (up σx 53 0 w (iz c)) := (hMv.fr y3 (by intro r k _ _; unfold PG PBd; omega)).fr fy (by intro r k _ _; unfold P53; omega)
            have F2 := fit_cut g (c := c) w hw (by omega) qc.1
            obtain ⟨gw1, gw2⟩ := n8 hw
            obtain ⟨go1, go2⟩ := n8 how
            generalize hσy : up σx 53 0 w (iz c) = σy at hE2 fy hMy
            obtain ⟨σ2, j1, j2, j3⟩ := p_keeps F2 hMy hE2 hp60
            have fin : f_X8_cut_164 FU (nI p) (nI w) (iz c) (nI n) 0 σf = some (nI n, σ2) := by
              rw [← nI_0, l1, f_X8_cut_196, chk_p gw1, gw2, lt_eq, hσy, j1, cal_some]
            have run8 : f_X8_cut (nI p) (nI w) (iz c) σ1 = some (nI n, σ2) := by
              have e3 : (3 : Int32) = nI 3 := by decide
              refine cut8_run (M1 := iz (R p w)) (M2 := iz (R p (opp w))) (n := n) (p := p) (w4 := opp w) (σk := σk) (σe := σv) (A := nI (og p)) (B := nI (th p)) (x := nI n) i1 q1 q2 t1 mo1 (by rw [e2c]; exact fun z => by have := d1.mp z; omega) (by rw [o4]; exact mo2) (by rw [em2c]; exact d2.mpr qc.2) ?_ (by rw [e3]; exact u1) ?_ gi1 gi2 gp1 gp2 (by rw [o4]; exact go1) (by rw [o4]; exact go2) ?_ ?_ (by omega) ?_ y1 fin
              · rw [t6.1 25 0 6 (by unfold PT PG; omega), m1 25 0 6 (by decide), h.2.1.2.1]
                exact fun z => by have := (nI_eq (a := n) (b := 60) (by omega) (by decide)).mp z; omega
              · rw [mk 25 6 (by omega)]; exact h.2.1.2.1
              · rw [mk 50 p (by omega)]; exact hog.2.2
              · rw [mk 49 p (by omega)]; exact ht.2.2
              · rw [nI_1, hσu, iz_neg, hσv]
            -- together
            have f2 : fri (fun r i k => PT r i k ∨ PH8 r i k ∨ (((r = 25 ∧ k = 6) ∨ ((r = 47 ∨ (49 ≤ r ∧ r ≤ 51)) ∧ k = n)) ∨ P53 r i k) ∨ (PG r i k ∨ PBd n r i k) ∨ PBd p r i k) σ1 σ2 := (t6.mono (fun _ _ _ z => Or.inl z)).tr ((u3.mono (fun _ _ _ z => Or.inr (Or.inl z))).tr ((fv.mono (fun _ _ _ z => Or.inr (Or.inr (Or.inl z)))).tr ((y3.mono (fun _ _ _ z => Or.inr (Or.inr (Or.inr (Or.inl z))))).tr ((fy.mono (fun _ _ _ z => Or.inr (Or.inr (Or.inl (Or.inr z))))).tr (j3.mono (fun _ _ _ z => z.elim (fun y => Or.inr (Or.inr (Or.inr (Or.inl (Or.inl y))))) (fun y => Or.inr (Or.inr (Or.inr (Or.inr y)))))))))) 
            have f2v : fri (fun r i k => P53 r i k ∨ (PG r i k ∨ PBd n r i k) ∨ PBd p r i k) σv σ2 := (y3.mono (fun _ _ _ z => Or.inr (Or.inl z))).tr ((fy.mono (fun _ _ _ z => Or.inl z)).tr (j3.mono (fun _ _ _ z => z.elim (fun y => Or.inr (Or.inl (Or.inl y))) (fun y => Or.inr (Or.inr y)))))
            have m2 : ∀ r i k, r < 25 → σ2.1 r i k = σ1.1 r i k := fun r i k hr => f2.1 r i k (by unfold PT PH8 P53 PG PBd; omega)
            have fA : frp PMu σ σ2 := (f1.mono (fun r i k z => by unfold PMu PPc; unfold PAd PH7 PSa P18 PSh at z; unfold PH7; omega)).tr (f2.p.mono (fun r i k z => by unfold PMu PPc PN PT; unfold PT PH8 P53 PG PBd at z; unfold PH8 PG; omega))
            have zv : ∀ r k, (r = 25 ∧ k = 6) ∨ r = 47 ∨ (49 ≤ r ∧ r ≤ 52) → σ2.1 r 0 k = σu.1 r 0 k := fun r k hr => by rw [f2v.1 r 0 k (by unfold P53 PG PBd; omega), ← hσv, up_rd, if_neg (by omega)]
            obtain ⟨s1, s2, s3⟩ := cut_sm g s hw (C := 2 * c) (by omega) (by omega) qc.1
            obtain ⟨s4, s5, s6⟩ := cut_sm g s how (C := -(2 * c)) (by omega) (by rw [opp_opp w hw]; omega) qc.2
            refine ⟨nI n, σ1, σ2, run7, run8, fA, n + 1, (fun q => if q = n then cutT (R p) (opp w) (-(2 * c)) else (if q = p then cutT (R p) w (2 * c) else R q)), (fun q => if q = n then th p else th q), (fun q => if q = n then og p else og q), (fun q => if q = n then true else ex q), (fun q => if q = n then 0 else ba q), ⟨?_, ?_⟩, ?_⟩
            · refine h.grow (R' := fun q => if q = p then cutT (R p) w (2 * c) else R q) hn6 ?_ ?_ ?_ ?_ ?_ (fun q hq => ?_)
              · have : σ2.2 = σa.2 := by rw [f2.2, c4.2, b3.2]
                rw [this]; exact a6
              · rw [m2 1 0 1 (by decide), c4.1 1 0 1 (by unfold PSa P18 PSh; omega), b3.1 1 0 1 (by unfold PH7; omega)]; exact a5
              · rw [zv 25 6 (by omega)]; exact cu.1
              · rw [m2 1 0 2 (by decide), f1.1 1 0 2 (by unfold PAd PH7 PSa P18 PSh; omega), if_neg (show ¬ og p = n by omega)]; exact h.2.1.2.2
              · have z16 : ∀ k, σ2.1 16 n k = σa.1 16 n k := fun k => by rw [m2 16 n k (by decide), c4.1 16 n k (by unfold PSa P18 PSh; omega), b3.1 16 n k (by unfold PH7; omega)]
                refine ⟨⟨s6, s4⟩, ⟨⟨fun k hk => ?_, ?_, fun j hj => ?_⟩, fun k hk => ?_⟩, ⟨ht.1, ?_, ?_⟩, ⟨by omega, ?_, ?_⟩, ⟨?_, ?_⟩, ?_, fun z => absurd z (by omega)⟩
                · rw [m2 18 n k (by decide)]; exact c3.1 k hk
                · rw [m2 17 n 4 (by decide)]; exact c3.2.1
                · rw [m2 19 n j (by decide), m2 20 n j (by decide), m2 21 n j (by decide)]; exact c3.2.2 j hj
                · rw [j3.1 48 0 _ (by unfold PG PBd; omega), fy.1 48 0 _ (by unfold P53; omega)]; exact y2 k hk
                · rw [z16]; exact a3
                · rw [zv 49 n (by omega)]; exact cu.2.2.2.2
                · rw [z16]; exact a2
                · rw [zv 50 n (by omega)]; exact cu.2.2.2.1
                · rw [z16]; exact a4
                · rw [zv 47 n (by omega)]; exact cu.2.1
                · rw [zv 51 n (by omega), decide_eq_false (show ¬ og p = n by omega)]; exact cu.2.2.1
              · by_cases qp : q = p
                · subst qp
                  simp only [if_true]
                  have z16 : ∀ k, σ2.1 16 q k = σ.1 16 q k := fun k => by rw [m2 16 q k (by decide), f1.1 16 q k (by unfold PAd PH7 PSa P18 PSh; omega)]
                  have zq : ∀ r, r = 47 ∨ (49 ≤ r ∧ r ≤ 52) → σ2.1 r 0 q = σ.1 r 0 q := fun r hr => by rw [zv r q (by omega), fu.1 r 0 q (by omega), mk r q (by omega)]
                  refine ⟨⟨s3, s1⟩, ⟨⟨fun k hk => ?_, ?_, fun j hj => ?_⟩, j2⟩, ⟨ht.1, ?_, ?_⟩, ⟨hog.1, ?_, ?_⟩, ⟨?_, ?_⟩, ?_, fun z => ⟨?_, ?_⟩⟩
                  · rw [m2 18 q k (by decide)]; exact c2.1 k hk
                  · rw [m2 17 q 4 (by decide)]; exact c2.2.1
                  · rw [m2 19 q j (by decide), m2 20 q j (by decide), m2 21 q j (by decide)]; exact c2.2.2 j hj
                  · rw [z16]; exact ht.2.1
                  · rw [zq 49 (by omega)]; exact ht.2.2
                  · rw [z16]; exact hog.2.1
                  · rw [zq 50 (by omega)]; exact hog.2.2
                  · rw [z16]; exact x1
                  · rw [zq 47 (by omega)]; exact x2
                  · rw [zq 51 (by omega)]; exact hib
                  · rw [z16]; exact (hba z).1
                  · rw [zq 52 (by omega)]; exact (hba z).2
                · simp only [if_neg qp]
                  refine (h.2.2 q hq).cg (fun r k h1 h2 => ?_) (fun k hk => ?_) (fun r hr => ?_)
                  · rw [m2 r q k (by omega), f1.1 r q k (by unfold PAd PH7 PSa P18 PSh; omega)]
                  · rw [f2.1 48 0 _ (by unfold PT PH8 P53 PG PBd; omega), m1 48 0 _ (by decide)]
                  · rw [zv r q (by omega), fu.1 r 0 q (by omega), mk r q (by omega)]
            · refine ⟨_, _, _, _, _, _, (b2.fr c4.1 ?_).fr f2.1 ?_, (u2.fr fv.1 ?_).fr f2v.1 ?_, ?_⟩
              · intro r k; unfold PH7 PSa P18 PSh; omega
              · intro r k; unfold PH7 PT PH8 P53 PG PBd; omega
              · intro r k; unfold PH8 P53; omega
              · intro r k; unfold PH8 P53 PG PBd; omega
              · have := HV.push k7.1.1 kv (s := 3) (p := p) (Rn := R p) (by omega) (fun z => absurd z (by decide)) (fun _ => ⟨p1, g, s⟩)
                rw [if_neg (show ¬ (3 : Nat) = 2 by decide)] at this
                exact this
            · intro q hq hx _
              refine ⟨by omega, ?_⟩
              show (if q = n then true else ex q) = true
              rw [if_neg (by omega)]
              exact hx
        · rw [if_neg qc] at crs1
          refine MU.scr hh (r := -2) (σ2 := σt) ?_ ?_ (t6.mono (fun _ _ _ => PN_of_PT))
          · rw [f_X7_cut, p4, cal_some, oel_s, p_isFrom, cal_some, if_pos q1, if_neg (show ¬ (1 : Int32) = 0 by decide), p_isFrom, cal_some, if_pos q2, if_neg (show ¬ (1 : Int32) = 0 by decide), e2c, crs1, cal_some, if_pos rfl]
          · rw [f_X8_cut, p5, cal_some, if_neg (show ¬ (1 : Int32) = 0 by decide), c64_0, c64_3, p_in, cal_some, if_pos q1, if_neg (show ¬ (1 : Int32) = 0 by decide), c64_m4000, c64_4000, p_in, cal_some, if_pos q2, if_neg (show ¬ (1 : Int32) = 0 by decide), t1, cal_some, mo1, cal_some, e2c]
            by_cases k1 : R p w ≤ 2 * c
            · rw [if_pos (d1.mpr k1)]
            · rw [if_neg (fun z => k1 (d1.mp z)), o4, mo2, cal_some, em2c, if_neg (fun z => by have := d2.mp z; omega)]
      · refine MU.same hh (r := -1) ?_ ?_
        · rw [f_X7_cut, p4, cal_some, oel_s, p_isFrom, cal_some, if_pos q1, if_neg (show ¬ (1 : Int32) = 0 by decide), p_isFrom, cal_some, if_neg q2, if_pos rfl]
        · rw [f_X8_cut, p5, cal_some, if_neg (show ¬ (1 : Int32) = 0 by decide), c64_0, c64_3, p_in, cal_some, if_pos q1, if_neg (show ¬ (1 : Int32) = 0 by decide), c64_m4000, c64_4000, p_in, cal_some, if_neg q2, if_pos rfl]
    · refine MU.same hh (r := -1) ?_ ?_
      · rw [f_X7_cut, p4, cal_some, oel_s, p_isFrom, cal_some, if_neg q1, if_pos rfl]
      · rw [f_X8_cut, p5, cal_some, if_neg (show ¬ (1 : Int32) = 0 by decide), c64_0, c64_3, p_in, cal_some, if_neg q1, if_pos rfl]
  · refine MU.same hh (r := -1) ?_ ?_
    · rw [f_X7_cut, p4, cal_some, oel_n]
    · rw [f_X8_cut, p5, cal_some, if_pos rfl]
