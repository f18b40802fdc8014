/-! ===== PURE: the law's loop ===== -/
set_option maxRecDepth 20000 in
set_option maxHeartbeats 2000000 in
theorem law_loop {L : Nat} (hL : L ≤ 2560) (xs : Nat → Int32) : ∀ (fuel t : Nat) (σ : SS), TIE σ → t ≤ L → L < t + 5 * fuel → ∃ σ', f_L_law_18 L xs fuel (nI t) σ = some (1, σ') := by
  intro fuel
  induction fuel with
  | zero => intro t σ _ h1 h2; omega
  | succ f ih =>
    intro t σ h h1 h2
    have e5 : nI L - (5 : Int32) = iz ((L : Int) - 5) := by
      rw [iz_nI, show (5 : Int32) = iz 5 from rfl, iz_sub]
    have cc : iz ((L : Int) - 5) < nI t ↔ (L : Int) - 5 < t := by
      rw [iz_nI]
      exact iz_lt ⟨by omega, by omega⟩ ⟨by omega, by omega⟩
    rw [f_L_law_18, show Int32.ofNat L - (5 : Int32) = iz ((L : Int) - 5) from e5]
    by_cases q : (L : Int) - 5 < t
    · rw [if_pos (cc.mpr q)]
      exact ⟨σ, rfl⟩
    · rw [if_neg (fun z => q (cc.mp z))]
      have w1 : nI t + (1 : Int32) = nI (t + 1) := by rw [nI_1]
      have w2 : nI t + (2 : Int32) = nI (t + 2) := by show nI t + nI 2 = _; rw [nI_add]
      have w3 : nI t + (3 : Int32) = nI (t + 3) := by show nI t + nI 3 = _; rw [nI_add]
      have w4 : nI t + (4 : Int32) = nI (t + 4) := by show nI t + nI 4 = _; rw [nI_add]
      have w5 : nI t + (5 : Int32) = nI (t + 5) := by show nI t + nI 5 = _; rw [nI_add]
      have c0 : inr (nI t) L := nI_in (by omega) (by omega)
      have c1 : inr (nI t + (1 : Int32)) L := by rw [w1]; exact nI_in (by omega) (by omega)
      have c2 : inr (nI t + (2 : Int32)) L := by rw [w2]; exact nI_in (by omega) (by omega)
      have c3 : inr (nI t + (3 : Int32)) L := by rw [w3]; exact nI_in (by omega) (by omega)
      have c4 : inr (nI t + (4 : Int32)) L := by rw [w4]; exact nI_in (by omega) (by omega)
      have hK : ∀ τ, TIE τ → ∃ σ', f_L_law_18 L xs f (nI t + 5) τ = some (1, σ') := fun τ hτ => by rw [w5]; exact ih (t + 5) τ hτ (by omega) (by omega)
      simp only [chk_p c0, chk_p c1, chk_p c2, chk_p c3, chk_p c4]
      generalize xs (ix (nI t)) &&& (31 : Int32) = o
      generalize h1x : xs (ix (nI t + (1 : Int32))) = x1
      generalize h2x : xs (ix (nI t + (2 : Int32))) = x2
      generalize h3x : xs (ix (nI t + (3 : Int32))) = x3
      generalize h4x : xs (ix (nI t + (4 : Int32))) = x4
      by_cases o0 : o = 0
      · rw [if_pos o0]
        exact step_ok (st_block h x1 x2 x3) hK
      rw [if_neg o0]
      by_cases o1 : o = 1
      · rw [if_pos o1]
        exact step_ok (st_cut h x1 x2 x3) hK
      rw [if_neg o1]
      by_cases o2 : o = 2
      · rw [if_pos o2]
        exact step_ok (st_move h x1 x2 x3) hK
      rw [if_neg o2]
      by_cases o3 : o = 3
      · rw [if_pos o3]
        exact step_ok (st_turn h x1 x2) hK
      rw [if_neg o3]
      by_cases o4 : o = 4
      · rw [if_pos o4]
        exact step_ok (st_scrap h x1) hK
      rw [if_neg o4]
      by_cases o5 : o = 5
      · rw [if_pos o5]
        exact step_ok (st_bound h x1 x2) hK
      rw [if_neg o5]
      by_cases o6 : o = 6
      · rw [if_pos o6]
        exact step_ok (st_about h x1 x2) hK
      rw [if_neg o6]
      by_cases o7 : o = 7
      · rw [if_pos o7]
        exact step_ok (st_corner h x1 x2 x3) hK
      rw [if_neg o7]
      by_cases o8 : o = 8
      · rw [if_pos o8]
        exact step_ok (st_side h x1 x2) hK
      rw [if_neg o8]
      by_cases o9 : o = 9
      · rw [if_pos o9]
        exact step_ok (st_area h x1) hK
      rw [if_neg o9]
      by_cases o10 : o = 10
      · rw [if_pos o10]
        exact step_ok64 (st_volume h x1) hK
      rw [if_neg o10]
      by_cases o11 : o = 11
      · rw [if_pos o11]
        exact step_ok (st_inside h x1 x2 x3) hK
      rw [if_neg o11]
      by_cases o12 : o = 12
      · rw [if_pos o12]
        exact step_ok (st_waste h x1) hK
      rw [if_neg o12]
      by_cases o13 : o = 13
      · rw [if_pos o13]
        exact step_ok (st_near h x1 x2) hK
      rw [if_neg o13]
      by_cases o14 : o = 14
      · rw [if_pos o14]
        exact step_ok (st_touch h x1 x2 x3) hK
      rw [if_neg o14]
      by_cases o15 : o = 15
      · rw [if_pos o15]
        exact step_ok (st_rule h x1 x2 x3 x4) hK
      rw [if_neg o15]
      by_cases o16 : o = 16
      · rw [if_pos o16]
        by_cases z : x2 = 0
        · rw [if_pos z, f_L_law_756]
          simp only [chk_p c1, chk_p c2, h1x, h2x, if_pos z, f_L_law_778]
          exact step_ok (st_pack h x1 0 (Or.inl rfl)) hK
        · rw [if_neg z, f_L_law_756]
          simp only [chk_p c1, chk_p c2, h1x, h2x, if_neg z, f_L_law_778]
          exact step_ok (st_pack h x1 1 (Or.inr rfl)) hK
      rw [if_neg o16]
      by_cases o17 : o = 17
      · rw [if_pos o17]
        exact step_ok (st_above h x1 x2 x3) hK
      rw [if_neg o17]
      by_cases o18 : o = 18
      · rw [if_pos o18]
        exact step_ok (st_treats h x1 x2) hK
      rw [if_neg o18]
      by_cases o19 : o = 19
      · rw [if_pos o19]
        exact step_ok (st_undecided h) hK
      rw [if_neg o19]
      by_cases o20 : o = 20
      · rw [if_pos o20]
        exact step_ok (st_meet h x1 x2) hK
      rw [if_neg o20]
      by_cases o21 : o = 21
      · rw [if_pos o21]
        exact step_ok (st_assembly h) hK
      rw [if_neg o21]
      by_cases o22 : o = 22
      · rw [if_pos o22]
        by_cases z : x3 = 0
        · rw [if_pos z, f_L_law_945]
          simp only [chk_p c1, chk_p c2, chk_p c3, h1x, h2x, h3x, if_pos z, f_L_law_972]
          exact step_ok (st_put h x1 x2 0 (Or.inl rfl)) hK
        · rw [if_neg z, f_L_law_945]
          simp only [chk_p c1, chk_p c2, chk_p c3, h1x, h2x, h3x, if_neg z, f_L_law_972]
          exact step_ok (st_put h x1 x2 1 (Or.inr rfl)) hK
      rw [if_neg o22]
      by_cases o23 : o = 23
      · rw [if_pos o23]
        exact step_ok (st_walked h x1) hK
      rw [if_neg o23]
      by_cases o24 : o = 24
      · rw [if_pos o24]
        exact step_ok (st_walk h x1 x2) hK
      rw [if_neg o24]
      by_cases o25 : o = 25
      · rw [if_pos o25]
        exact step_ok64 (st_weight h x1) hK
      rw [if_neg o25]
      by_cases o26 : o = 26
      · rw [if_pos o26]
        exact step_ok (st_price h x1) hK
      rw [if_neg o26]
      by_cases o27 : o = 27
      · rw [if_pos o27]
        exact step_ok (st_check h x1) hK
      rw [if_neg o27]
      by_cases o28 : o = 28
      · rw [if_pos o28]
        exact step_ok (st_undo h) hK
      rw [if_neg o28]
      by_cases o29 : o = 29
      · rw [if_pos o29]
        exact step_ok (st_count h x1) hK
      rw [if_neg o29]
      rw [f_L_law_1142, lt_eq]
      exact hK σ h
