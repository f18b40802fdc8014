/-! ===== PURE: block(), cut() ===== -/
theorem box_area (w h : Int) : area8 (boxR w h) = 8 * w * h := by
  unfold area8
  rw [crs_eq _ 6 (by decide), crs_eq _ 5 (by decide), crs_eq _ 3 (by decide), crs_eq _ 0 (by decide), crs_eq _ 2 (by decide), crs_eq _ 1 (by decide), crs_eq _ 7 (by decide), crs_eq _ 4 (by decide)]
  have l6 : ld (boxR w h) 6 = 0 := by simp only [ld, boxR]; omega
  have l3 : ld (boxR w h) 3 = 0 := by simp only [ld, boxR]; omega
  have l2 : ld (boxR w h) 2 = 0 := by simp only [ld, boxR]; omega
  have l7 : ld (boxR w h) 7 = 0 := by simp only [ld, boxR]; omega
  have l0 : ld (boxR w h) 0 = 2 * h := by simp only [ld, boxR]; omega
  have l1 : ld (boxR w h) 1 = 2 * w := by simp only [ld, boxR]; omega
  rw [l6, l3, l2, l7, l0, l1]
  simp only [boxR, Int.mul_zero, Int.zero_mul, Int.add_zero, Int.zero_add]
  have e1 : 2 * w * (2 * h) = 4 * (w * h) := by
    rw [Int.mul_assoc, Int.mul_left_comm w 2 h, ← Int.mul_assoc]
    rfl
  have e2 : 2 * h * (2 * w) = 4 * (w * h) := by
    rw [Int.mul_assoc, Int.mul_left_comm h 2 w, ← Int.mul_assoc, Int.mul_comm h w]
    rfl
  have e3 : 8 * w * h = 8 * (w * h) := Int.mul_assoc _ _ _
  omega
theorem b122_loop {p : Nat} {w h : Int} (hw : 1 ≤ w ∧ w ≤ 1000) (hh : 1 ≤ h ∧ h ≤ 1000) : ∀ (s t fuel : Nat) (σ : SS), t + s = 8 → s < fuel → MTb σ → (∀ k, k < t → σ.1 53 0 k = iz (boxE w h k)) → ∃ σ', f_X8_block_122 fuel (iz w) (iz h) (nI p) (nI t) σ = f_X8_block_173 (nI p) σ' ∧ (∀ k, k < 8 → σ'.1 53 0 k = iz (boxE w h k)) ∧ fri P53 σ σ' := by
  intro s
  induction s with
  | zero =>
    intro t fuel σ ht hf hM hb
    obtain ⟨f, rfl⟩ : ∃ f, fuel = f + 1 := ⟨fuel - 1, by omega⟩
    have : t = 8 := by omega
    subst this
    rw [f_X8_block_122, if_pos (by decide)]
    exact ⟨σ, rfl, hb, fri.rf _ _⟩
  | succ s ih =>
    intro t fuel σ ht hf hM hb
    obtain ⟨f, rfl⟩ : ∃ f, fuel = f + 1 := ⟨fuel - 1, by omega⟩
    have h8 : t < 8 := by omega
    obtain ⟨g1, g2⟩ := n8 h8
    have nb := nz_b t h8
    have cx0 : iz (nz t) ≤ 0 ↔ nz t ≤ 0 := iz_le (b := 0) ⟨by omega, by omega⟩ ⟨by decide, by decide⟩
    have cy0 : iz (wz t) ≤ 0 ↔ wz t ≤ 0 := iz_le (b := 0) ⟨by omega, by omega⟩ ⟨by decide, by decide⟩
    have e165 : ∀ u v, f_X8_block_165 (f_X8_block_122 f) (iz w) (iz h) (nI p) (nI t) (nI t) u v σ = f_X8_block_122 f (iz w) (iz h) (nI p) (nI (t + 1)) (up σ 53 0 t (u + v)) := by
      intro u v
      rw [f_X8_block_165, chk_p g1, g2, lt_eq, lt_eq, nI_1]
    have e150 : ∀ u, f_X8_block_150 (f_X8_block_122 f) (iz w) (iz h) (nI p) (nI t) (nI t) u σ = f_X8_block_122 f (iz w) (iz h) (nI p) (nI (t + 1)) (up σ 53 0 t (u + (if wz t ≤ 0 then 0 else iz h))) := by
      intro u
      rw [f_X8_block_150, chk_p g1, g2, (hM t h8).2.1]
      by_cases q : wz t ≤ 0
      · rw [if_pos (cy0.mpr q), if_pos q, e165]
      · rw [if_neg (fun z => q (cy0.mp z)), if_neg q, e165]
    have ev : ∀ t, t < 8 → (if nz t ≤ 0 then 0 else iz w) + (if wz t ≤ 0 then 0 else iz h) = iz (boxE w h t) := by
      apply all8 <;> simp (config := { decide := true }) only [nz, wz, boxE, if_true, if_false]
      · rw [show (0 : Int32) = iz 0 from rfl, iz_add, Int.add_zero]
      · rw [show (0 : Int32) = iz 0 from rfl, iz_add, Int.zero_add]
      · rw [iz_add]
      · rw [show (0 : Int32) = iz 0 from rfl, iz_add, Int.add_zero]
      all_goals first | rfl | (rw [show (0 : Int32) = iz 0 from rfl, iz_add, Int.zero_add])
    have run : f_X8_block_122 (f + 1) (iz w) (iz h) (nI p) (nI t) σ = f_X8_block_122 f (iz w) (iz h) (nI p) (nI (t + 1)) (up σ 53 0 t (iz (boxE w h t))) := by
      rw [f_X8_block_122, if_neg (le8 h8), chk_p g1, g2, (hM t h8).1, ← ev t h8]
      by_cases q : nz t ≤ 0
      · rw [if_pos (cx0.mpr q), if_pos q, e150]
      · rw [if_neg (fun z => q (cx0.mp z)), if_neg q, e150]
    rw [run]
    have f1 : fri P53 σ (up σ 53 0 t (iz (boxE w h t))) := fri.up (fri.rf _ _) rfl
    obtain ⟨σ', q1, q2, q3⟩ := ih (t + 1) f (up σ 53 0 t (iz (boxE w h t))) (by omega) (by omega) (hM.fr f1 (by intro r k _ _; unfold P53; omega)) (fun k hk => by
      by_cases q : k = t
      · rw [q]
        simp only [up_rd, and_self, if_true]
      · rw [up_rd, if_neg (by omega)]
        exact hb k (by omega))
    exact ⟨σ', q1, q2, f1.tr q3⟩
theorem blk_le (og : Nat → Nat) : ∀ n, blk og n ≤ n := by
  intro n
  induction n with
  | zero => exact Nat.le_refl _
  | succ n ih =>
    show blk og n + _ ≤ n + 1
    split <;> omega
theorem blk_cg {og og' : Nat → Nat} : ∀ {n}, (∀ p, p < n → og p = og' p) → blk og n = blk og' n := by
  intro n
  induction n with
  | zero => intro _; rfl
  | succ n ih =>
    intro h
    show blk og n + _ = blk og' n + _
    rw [ih (fun p hp => h p (by omega)), h n (by omega)]
/-- what a new piece leaves of the others -/
theorem PC.grow {σ σ2 : SS} {n : Nat} {R : Nat → Nat → Int} {th og : Nat → Nat} {ex : Nat → Bool} {ba : Nat → Int} (h : PC σ n R th og ex ba) {Rn : Nat → Int} {tn on : Nat} {bn : Int} (hn : n < 60) (hs : n + 1 ≤ σ2.2.1 ∧ σ2.2.1 ≤ 60) (h1 : σ2.1 1 0 1 = nI (n + 1)) (h2 : σ2.1 25 0 6 = nI (n + 1)) (h3 : σ2.1 1 0 2 = nI (blk og n + (if on = n then 1 else 0))) (hp : PR1 σ2 n Rn tn on true bn) {R' : Nat → Nat → Int} (ho : ∀ q, q < n → PR1 σ2 q (R' q) (th q) (og q) (ex q) (ba q)) : PC σ2 (n + 1) (fun q => if q = n then Rn else R' q) (fun q => if q = n then tn else th q) (fun q => if q = n then on else og q) (fun q => if q = n then true else ex q) (fun q => if q = n then bn else ba q) := by
  refine ⟨⟨by omega, hs.1, hs.2⟩, ⟨h1, h2, ?_⟩, fun q hq => ?_⟩
  · rw [h3]
    have e1 : blk (fun q => if q = n then on else og q) (n + 1) = blk og n + (if on = n then 1 else 0) := by
      show blk _ n + (if (if n = n then on else og n) = n then 1 else 0) = _
      rw [if_pos rfl, blk_cg (og' := og) (fun p hp => by rw [if_neg (by omega)])]
    rw [e1]
  · by_cases z : q = n
    · subst z
      simp only [if_true]
      exact hp
    · simp only [if_neg z]
      exact ho q (by omega)
theorem MTb.eq {σ τ : SS} (h : MTb σ) (e : ∀ r k, 40 ≤ r → r < 43 → τ.1 r 0 k = σ.1 r 0 k) : MTb τ := fun k hk => by
  rw [e 40 k (by decide) (by decide), e 41 k (by decide) (by decide), e 42 k (by decide) (by decide)]
  exact h k hk
theorem oel_s {α β : Type} {n : α} {A : β} {K : α → β} : Option.elim (some n) A K = K n := rfl
theorem oel_n {α β : Type} {A : β} {K : α → β} : Option.elim none A K = A := rfl
theorem blk7_run {v1 v2 v3 x : Int32} {n : Nat} {σ σa σb : SS} {A B : Int32} (q1 : (1 : Int32) ≤ v1 ∧ v1 ≤ 1000) (q2 : (1 : Int32) ≤ v2 ∧ v2 ≤ 1000) (q3 : (1 : Int32) ≤ v3 ∧ v3 ≤ 1000) (e1 : σ.1 1 0 1 = x) (hf : f_X6_isFull σ = some (0, σ)) (a1 : f_X6_add x v3 σ = some (some n, σa)) (b1 : f_X3_becomeBox n v1 v2 σa = some ((), σb)) (c1 : f_X3_eightfold n σb = some (A, σb)) (d1 : (up σb 16 n 3 A).1 1 0 2 + 1 = B) : f_X7_block v1 v2 v3 σ = cal (f_X2_keep (-1) none x (up (up σb 16 n 3 A) 1 0 2 B)) (fun _ s18 => some (x, s18)) := by
  rw [f_X7_block, p_isFrom, cal_some, if_pos q1, if_neg (show ¬ (1 : Int32) = 0 by decide), p_isFrom, cal_some, if_pos q2, if_neg (show ¬ (1 : Int32) = 0 by decide), p_isFrom, cal_some, if_pos q3, if_neg (show ¬ (1 : Int32) = 0 by decide), hf, cal_some, if_pos rfl, lt_eq, e1, a1, cal_some]
  rw [oel_s, b1, cal_some, c1, cal_some, lt_eq, lt_eq, d1]
theorem q_block {σ : SS} (hM : MTb σ) {n : Nat} {R : Nat → Nat → Int} {th og : Nat → Nat} {ex : Nat → Bool} {ba : Nat → Int} (hh : PH σ n R th og ex ba) (hd : Nat → Prop) (v1 v2 v3 : Int32) : MU σ hd n ex (f_X7_block v1 v2 v3) (f_X8_block v1 v2 v3) := by
  have h := hh.1
  have hn := h.1.1
  by_cases q1 : (1 : Int32) ≤ v1 ∧ v1 ≤ 1000
  · by_cases q2 : (1 : Int32) ≤ v2 ∧ v2 ≤ 1000
    · by_cases q3 : (1 : Int32) ≤ v3 ∧ v3 ≤ 1000
      · by_cases qf : n = 60
        · subst qf
          refine MU.same hh (r := -3) ?_ ?_
          · unfold f_X7_block f_X6_isFull
            rw [p_isFrom, cal_some, if_pos q1, if_neg (by decide), p_isFrom, cal_some, if_pos q2, if_neg (by decide), p_isFrom, cal_some, if_pos q3, if_neg (by decide), h.2.1.1, if_neg (by decide), cal_some, if_neg (by decide)]
          · unfold f_X8_block
            rw [c64_1, c64_1000, p_in, cal_some, if_pos q1, if_neg (by decide), p_in, cal_some, if_pos q2, if_neg (by decide), p_in, cal_some, if_pos q3, if_neg (by decide), h.2.1.2.1, if_pos (by decide)]
        · have hn6 : n < 60 := by omega
          obtain ⟨w, wl, wh, rfl⟩ := in_z q1
          obtain ⟨y, yl, yh, rfl⟩ := in_z q2
          obtain ⟨l, ll, lh, rfl⟩ := in_of (m := 1) (M := 1000) (by decide) (by decide) q3
          have z1 : (1 : Int32).toInt = 1 := by decide
          have z2 : (1000 : Int32).toInt = 1000 := by decide
          rw [z1] at wl yl
          rw [z2] at wh yh
          obtain ⟨m, la, so, pc, nb, Ro, k7, k8, kv⟩ := hh.2
          obtain ⟨gi1, gi2⟩ := n60 hn6
          -- the class
          obtain ⟨σa, a1, ⟨a2, a3, a4, a5⟩, a6, a7⟩ := p_add (og := n) (th := l) h.2.1.1 hn6 h.1.2
          obtain ⟨σb, b1, b2, b3⟩ := p_box (σ := σa) (p := n) (w := w) (h := y) ⟨wl, wh⟩ ⟨yl, yh⟩
          have eb : σb.1 1 0 2 = nI (blk og n) := by rw [b3.1 1 0 2 (by unfold PSa P18 PSh; omega), a7.1 1 0 2 (by unfold PAd; omega)]; exact h.2.1.2.2
          have fc : frp (fun r i k => PAd n r i k ∨ (r = 1 ∧ k = 2)) σ (up (up σb 16 n 3 (iz (8 * w * y))) 1 0 2 (nI (blk og n + 1))) := by
            refine frp.up (frp.up ((a7.mono (fun _ _ _ z => Or.inl z)).tr (b3.p.mono (fun r i k z => ?_))) ?_) ?_
            · unfold PAd; unfold PSa P18 PSh at z; omega
            · unfold PAd; omega
            · unfold PAd; omega
          have sc : SH (up (up σb 16 n 3 (iz (8 * w * y))) 1 0 2 (nI (blk og n + 1))) n (boxR w y) := by
            refine ⟨fun k hk => ?_, ?_, fun j hj => ?_⟩
            · rw [up_rd, if_neg (by omega), up_rd, if_neg (by omega)]; exact b2.1 k hk
            · rw [up_rd, if_neg (by omega), up_rd, if_neg (by omega)]; exact b2.2.1
            · simp (config := { decide := true }) only [up_rd, false_and, if_false]; exact b2.2.2 j hj
          have c16 : (up (up σb 16 n 3 (iz (8 * w * y))) 1 0 2 (nI (blk og n + 1))).1 16 n 3 = iz (8 * w * y) ∧ (up (up σb 16 n 3 (iz (8 * w * y))) 1 0 2 (nI (blk og n + 1))).1 1 0 2 = nI (blk og n + 1) ∧ (∀ k, k ≠ 3 → (up (up σb 16 n 3 (iz (8 * w * y))) 1 0 2 (nI (blk og n + 1))).1 16 n k = σa.1 16 n k) ∧ (up (up σb 16 n 3 (iz (8 * w * y))) 1 0 2 (nI (blk og n + 1))).1 1 0 1 = nI (n + 1) ∧ (up (up σb 16 n 3 (iz (8 * w * y))) 1 0 2 (nI (blk og n + 1))).2 = σa.2 := by
            refine ⟨?_, ?_, fun k hk => ?_, ?_, b3.2⟩
            · simp (config := { decide := true }) only [up_rd, and_self, if_true, false_and, if_false]
            · simp (config := { decide := true }) only [up_rd, and_self, if_true, false_and, if_false]
            · rw [up_rd, if_neg (by omega), up_rd, if_neg (by omega), b3.1 16 n k (by unfold PSa P18 PSh; omega)]
            · rw [up_rd, if_neg (by omega), up_rd, if_neg (by omega), b3.1 1 0 1 (by unfold PSa P18 PSh; omega)]; exact a5
          have run7a : f_X7_block (iz w) (iz y) (nI l) σ = cal (f_X2_keep (-1) none (nI n) (up (up σb 16 n 3 (iz (8 * w * y))) 1 0 2 (nI (blk og n + 1)))) (fun _ s18 => some (nI n, s18)) :=
            blk7_run q1 q2 q3 h.2.1.1 (by
              unfold f_X6_isFull
              rw [h.2.1.1, if_pos (show nI n < (60 : Int32) from nI_lt (b := 60) hn6 (by decide))]) a1 b1 (by rw [p_eightfold b2, box_area]) (by rw [up_rd, if_neg (by omega), eb, nI_1])
          generalize up (up σb 16 n 3 (iz (8 * w * y))) 1 0 2 (nI (blk og n + 1)) = σc at fc sc c16 run7a
          obtain ⟨c1, c2, c3, c4, c5⟩ := c16
          have k7c : H7 σc m la so pc nb Ro := k7.fr fc.1 (by intro r k; unfold PH7 PAd; omega)
          obtain ⟨σ1, d1, d2, d3⟩ := p_keep7 (n' := n + 1) k7c (s := 1) (p := n) (b := n) (Rn := R 0) kv.1 (by omega) (fun z => absurd rfl z)
          have e1v : hcv 1 n = -1 := rfl
          have e2v : hfv 1 n = nI n := rfl
          rw [e1v, e2v, if_pos rfl] at d1
          have run7 : f_X7_block (iz w) (iz y) (nI l) σ = some (nI n, σ1) := by rw [run7a, d1, cal_some]
          have f1 : frp (fun r i k => PAd n r i k ∨ (r = 1 ∧ k = 2) ∨ PH7 r i k) σ σ1 := (fc.mono (fun r i k z => z.elim Or.inl (fun y => Or.inr (Or.inl y)))).tr (d3.p.mono (fun _ _ _ z => Or.inr (Or.inr z)))
          have m1 : ∀ r i k, 25 ≤ r → σ1.1 r i k = σ.1 r i k := fun r i k hr => f1.1 r i k (by unfold PH7 PAd; omega)
          have x1 : ∀ r k, 16 ≤ r → r ≤ 21 → σ1.1 r n k = σc.1 r n k := fun r k h1 h2 => d3.1 r n k (by unfold PH7; omega)
          -- the model
          have k81 : H8 σ1 m so pc Ro := k8.fr f1.1 (by intro r k; unfold PH8 PH7 PAd; omega)
          obtain ⟨σd, e1, e2, e3⟩ := p_keep8 k7.1.1 k81 (s := 1) (p := n) hn6 (Rn := R 0) ⟨fun k => (σ1.1 48 0 (8 * n + k)).toInt, fun k hk => (Int32.ofInt_toInt _).symm, fun z => absurd rfl z⟩
          have ed6 : σd.1 25 0 6 = nI n := by rw [e3.1 25 0 6 (by unfold PH8; omega), m1 25 0 6 (by decide)]; exact h.2.1.2.1
          generalize hσe : up (up (up (up (up (up σd 25 0 6 (nI (n + 1))) 47 0 n 1) 51 0 n 1) 52 0 n (iz (8 * w * y))) 50 0 n (nI n)) 49 0 n (nI l) = σe
          have fe : fri (fun r i k => (r = 25 ∧ k = 6) ∨ ((r = 47 ∨ (49 ≤ r ∧ r ≤ 52)) ∧ k = n)) σd σe := by
            rw [← hσe]
            refine fri.up (fri.up (fri.up (fri.up (fri.up (fri.up (fri.rf _ _) ?_) ?_) ?_) ?_) ?_) ?_ <;> omega
          have ce : σe.1 25 0 6 = nI (n + 1) ∧ σe.1 47 0 n = 1 ∧ σe.1 51 0 n = 1 ∧ σe.1 52 0 n = iz (8 * w * y) ∧ σe.1 50 0 n = nI n ∧ σe.1 49 0 n = nI l := by
            rw [← hσe]
            refine ⟨?_, ?_, ?_, ?_, ?_, ?_⟩ <;> simp (config := { decide := true }) only [up_rd, and_self, if_true, false_and, if_false]
          have hMe : MTb σe := hM.eq (fun r k h1 h2 => by rw [fe.1 r 0 k (by omega), e3.1 r 0 k (by unfold PH8; omega), m1 r 0 k (by omega)])
          obtain ⟨σf, g1, g2, g3⟩ := b122_loop (p := n) ⟨wl, wh⟩ ⟨yl, yh⟩ 8 0 FU σe rfl (by show 8 < 5000; omega) hMe (fun k hk => absurd hk (Nat.not_lt_zero _))
          have hMf : MTb σf := hMe.fr g3 (by intro r k _ _; unfold P53; omega)
          have hEf : EB σf (boxE w y) := fun k hk => ⟨g2 k hk, by
            revert k
            apply all8 <;> simp only [boxE] <;> omega⟩
          obtain ⟨σ2, u1, u2, u3⟩ := p_keeps (box_fit (w := w) (h := y) (by omega) (by omega)) hMf hEf hn6
          have run8 : f_X8_block (iz w) (iz y) (nI l) σ1 = some (nI n, σ2) := by
            have e6 : σ1.1 25 0 6 = nI n := by rw [m1 25 0 6 (by decide)]; exact h.2.1.2.1
            have e8 : (8 : Int32) * iz w * iz y = iz (8 * w * y) := by rw [show (8 : Int32) = iz 8 from rfl, iz_mul, iz_mul]
            have ne60 : ¬ nI n = (60 : Int32) := fun z => by have := (nI_eq (a := n) (b := 60) (by omega) (by decide)).mp z; omega
            have e11 : (1 : Int32) = nI 1 := by decide
            have kk1 : f_X8_keep 1 (nI n) σ1 = some ((), σd) := by rw [e11]; exact e1
            have gg1 : f_X8_block_122 FU (iz w) (iz y) (nI n) 0 σe = f_X8_block_173 (nI n) σf := by rw [← nI_0]; exact g1
            unfold f_X8_block
            rw [c64_1, c64_1000, p_in, cal_some, if_pos q1, if_neg (by decide), p_in, cal_some, if_pos q2, if_neg (by decide), p_in, cal_some, if_pos q3, if_neg (by decide), e6, if_neg ne60, lt_eq, kk1, cal_some, lt_eq, chk_p gi1, gi2, lt_eq, chk_p gi1, lt_eq, chk_p gi1, lt_eq, chk_p gi1, lt_eq, chk_p gi1, lt_eq, ed6, nI_1, e8, hσe, gg1, f_X8_block_173, u1, cal_some]
          have f2 : fri (fun r i k => PH8 r i k ∨ ((r = 25 ∧ k = 6) ∨ ((r = 47 ∨ (49 ≤ r ∧ r ≤ 52)) ∧ k = n)) ∨ P53 r i k ∨ PG r i k ∨ PBd n r i k) σ1 σ2 := (e3.mono (fun _ _ _ z => Or.inl z)).tr ((fe.mono (fun _ _ _ z => Or.inr (Or.inl z))).tr ((g3.mono (fun _ _ _ z => Or.inr (Or.inr (Or.inl z)))).tr (u3.mono (fun _ _ _ z => Or.inr (Or.inr (Or.inr z))))))
          have f2e : fri (fun r i k => P53 r i k ∨ PG r i k ∨ PBd n r i k) σe σ2 := (g3.mono (fun _ _ _ z => Or.inl z)).tr (u3.mono (fun _ _ _ z => Or.inr z))
          have m2 : ∀ r i k, r < 25 → σ2.1 r i k = σ1.1 r i k := fun r i k hr => f2.1 r i k (by unfold PH8 P53 PG PBd; omega)
          have fA : frp PMu σ σ2 := (f1.mono (fun r i k z => by unfold PMu PPc; unfold PAd PH7 at *; omega)).tr (f2.p.mono (fun r i k z => by unfold PMu PPc PN PT; unfold PH8 P53 PG PBd at *; omega))
          refine ⟨nI n, σ1, σ2, run7, run8, fA, n + 1, (fun q => if q = n then boxR w y else R q), (fun q => if q = n then l else th q), (fun q => if q = n then n else og q), (fun q => if q = n then true else ex q), (fun q => if q = n then 8 * w * y else ba q), ⟨?_, ?_⟩, ?_⟩
          · refine h.grow hn6 ?_ ?_ ?_ ?_ ?_ (fun q hq => ?_)
            · have : σ2.2 = σa.2 := by rw [f2.2, d3.2, c5]
              rw [this]; exact a6
            · rw [m2 1 0 1 (by decide), d3.1 1 0 1 (by unfold PH7; omega)]; exact c4
            · rw [f2e.1 25 0 6 (by unfold P53 PG PBd; omega)]; exact ce.1
            · rw [m2 1 0 2 (by decide), d3.1 1 0 2 (by unfold PH7; omega), if_pos rfl]; exact c2
            · have zc : ∀ r k, 16 ≤ r → r ≤ 21 → σ2.1 r n k = σc.1 r n k := fun r k h1 h2 => by rw [m2 r n k (by omega), x1 r k h1 h2]
              have zm : ∀ r, r = 47 ∨ (49 ≤ r ∧ r ≤ 52) → σ2.1 r 0 n = σe.1 r 0 n := fun r hr => f2e.1 r 0 n (by unfold P53 PG PBd; omega)
              refine ⟨⟨box_good (by omega) (by omega), ?_⟩, ⟨⟨fun k hk => ?_, ?_, fun j hj => ?_⟩, u2⟩, ⟨⟨ll, lh⟩, ?_, ?_⟩, ⟨Nat.le_refl _, ?_, ?_⟩, ⟨?_, ?_⟩, ?_, fun _ => ⟨?_, ?_⟩⟩
              · apply all8 <;> simp only [boxR] <;> omega
              · rw [zc 18 k (by omega) (by omega)]; exact sc.1 k hk
              · rw [zc 17 4 (by omega) (by omega)]; exact sc.2.1
              · rw [zc 19 j (by omega) (by omega), zc 20 j (by omega) (by omega), zc 21 j (by omega) (by omega)]; exact sc.2.2 j hj
              · rw [zc 16 1 (by omega) (by omega), c3 1 (by decide)]; exact a3
              · rw [zm 49 (by omega)]; exact ce.2.2.2.2.2
              · rw [zc 16 2 (by omega) (by omega), c3 2 (by decide)]; exact a2
              · rw [zm 50 (by omega)]; exact ce.2.2.2.2.1
              · rw [zc 16 4 (by omega) (by omega), c3 4 (by decide)]; exact a4
              · rw [zm 47 (by omega)]; exact ce.2.1
              · rw [zm 51 (by omega), decide_eq_true rfl]; exact ce.2.2.1
              · rw [zc 16 3 (by omega) (by omega)]; exact c1
              · rw [zm 52 (by omega)]; exact ce.2.2.2.1
            · refine (h.2.2 q hq).cg (fun r k h1 h2 => ?_) (fun k hk => ?_) (fun r hr => ?_)
              · rw [m2 r q k (by omega), f1.1 r q k (by unfold PAd PH7; omega)]
              · rw [f2.1 48 0 _ (by unfold PH8 P53 PG PBd; omega), m1 48 0 _ (by decide)]
              · rw [f2.1 r 0 q (by unfold PH8 P53 PG PBd; omega), m1 r 0 q (by omega)]
          · refine ⟨_, _, _, _, _, _, d2.fr f2.1 ?_, (e2.fr fe.1 ?_).fr f2e.1 ?_, ?_⟩
            · intro r k; unfold PH7 PH8 P53 PG PBd; omega
            · intro r k; unfold PH8; omega
            · intro r k; unfold PH8 P53 PG PBd; omega
            · have := HV.push k7.1.1 kv (s := 1) (p := n) (Rn := R 0) (by omega) (fun _ => rfl) (fun z => absurd rfl z)
              rw [if_neg (show ¬ (1 : Nat) = 2 by decide)] at this
              exact this
          · intro q hq hx _
            refine ⟨by omega, ?_⟩
            show (if q = n then true else ex q) = true
            rw [if_neg (by omega)]
            exact hx
      · refine MU.same hh (r := -1) ?_ ?_
        · unfold f_X7_block
          rw [p_isFrom, cal_some, if_pos q1, if_neg (by decide), p_isFrom, cal_some, if_pos q2, if_neg (by decide), p_isFrom, cal_some, if_neg q3, if_pos rfl]
        · unfold f_X8_block
          rw [c64_1, c64_1000, p_in, cal_some, if_pos q1, if_neg (by decide), p_in, cal_some, if_pos q2, if_neg (by decide), p_in, cal_some, if_neg q3, if_pos rfl]
    · refine MU.same hh (r := -1) ?_ ?_
      · unfold f_X7_block
        rw [p_isFrom, cal_some, if_pos q1, if_neg (by decide), p_isFrom, cal_some, if_neg q2, if_pos rfl]
      · unfold f_X8_block
        rw [c64_1, c64_1000, p_in, cal_some, if_pos q1, if_neg (by decide), p_in, cal_some, if_neg q2, if_pos rfl]
  · refine MU.same hh (r := -1) ?_ ?_
    · unfold f_X7_block
      rw [p_isFrom, cal_some, if_neg q1, if_pos rfl]
    · unfold f_X8_block
      rw [c64_1, c64_1000, p_in, cal_some, if_neg q1, if_pos rfl]
