/-! ===== PURE: the class: wholeReach, place, overlaps, common, directionTo ===== -/
theorem sgn0 (y : Int32) : (0 ≤ y) ↔ y.toBitVec.msb = false := by
  rw [Int32.le_iff_toInt_le, BitVec.msb_eq_toInt]
  show (0 : Int) ≤ y.toBitVec.toInt ↔ decide (y.toBitVec.toInt < 0) = false
  simp
theorem sgn_xor2 (x : Int32) : 0 ≤ (x ^^^ (2 : Int32)) ↔ 0 ≤ x := by
  rw [sgn0, sgn0, Int32.toBitVec_xor, BitVec.msb_xor]
  have : (2 : Int32).toBitVec.msb = false := by decide
  rw [this, Bool.xor_false]
theorem p_floorDiv {z : Int} (hb : bd z) (σ : SS) : f_J9_floorDiv_7cf53 (iz z) 2 σ = some (iz (z / 2), σ) := by
  have e1 : iz z / iz 2 = iz (z.tdiv 2) := iz_div hb ⟨by decide, by decide⟩
  have t2 := tdiv2 z
  have hl : 0 ≤ iz z ↔ 0 ≤ z := iz_le (a := 0) ⟨by decide, by decide⟩ hb
  unfold bd at hb
  have hc : iz (z.tdiv 2 * 2) = iz z ↔ z.tdiv 2 * 2 = z := iz_eq ⟨by split at t2 <;> omega, by split at t2 <;> omega⟩ hb
  unfold f_J9_floorDiv_7cf53
  rw [chk_p (by decide), lt_eq]
  by_cases q : 0 ≤ z
  · rw [if_pos ((sgn_xor2 _).mpr (hl.mpr q)), iz2, e1]
    congr 3
    split at t2 <;> omega
  · rw [if_neg (fun w => q (hl.mp ((sgn_xor2 _).mp w))), iz2, e1, iz_mul]
    by_cases q2 : z.tdiv 2 * 2 = z
    · rw [if_pos (hc.mpr q2)]
      congr 3
      split at t2 <;> omega
    · rw [if_neg (fun w => q2 (hc.mp w)), show (1 : Int32) = iz 1 from rfl, iz_sub]
      congr 3
      split at t2 <;> omega
theorem p_wholeReach {σ : SS} {p : Nat} {R : Nat → Int} (hR : ∀ k, k < 8 → σ.1 18 p k = iz (R k)) (hm : Sm R) {k : Nat} (hk : k < 8) : f_X3_wholeReach p (nI k) σ = some (iz (Ez R k), σ) := by
  obtain ⟨g1, g2⟩ := n8 hk
  have := hm k hk
  unfold f_X3_wholeReach
  rw [chk_p g1, g2, hR k hk, show (1 : Int32) = iz 1 from rfl, iz_add, p_floorDiv ⟨by omega, by omega⟩, cal_some]
  rfl
/-- 0 if one is beyond, 1 if one is at its bound, else 2 -/
def plc (b : Nat → Int) (x y : Int) (t : Nat) (v : Int32) (w : Int32) : Prop := ((∃ k, t ≤ k ∧ k < 8 ∧ b k < mz k x y) ∧ w = 0) ∨ ((∀ k, t ≤ k → k < 8 → mz k x y ≤ b k) ∧ (((∃ k, t ≤ k ∧ k < 8 ∧ mz k x y = b k) ∧ w = 1) ∨ ((∀ k, t ≤ k → k < 8 → mz k x y < b k) ∧ w = v)))
theorem place_loop {σ : SS} {p : Nat} {R : Nat → Int} (hR : ∀ k, k < 8 → σ.1 18 p k = iz (R k)) (hm : Sm R) {x y : Int} (hb : pb x y) : ∀ (s t fuel : Nat) (v : Int32), t + s = 8 → s < fuel → ∃ w, f_X3_place_5 fuel p (iz x) (iz y) v (nI t) σ = some (w, σ) ∧ plc R x y t v w := by
  intro s
  induction s with
  | zero =>
    intro t fuel v ht hf
    obtain ⟨f, rfl⟩ : ∃ f, fuel = f + 1 := ⟨fuel - 1, by omega⟩
    have : t = 8 := by omega
    subst this
    rw [f_X3_place_5, if_pos (by decide)]
    exact ⟨v, rfl, Or.inr ⟨fun k _ _ => by omega, Or.inr ⟨fun k _ _ => by omega, rfl⟩⟩⟩
  | succ s ih =>
    intro t fuel v ht hf
    obtain ⟨f, rfl⟩ : ∃ f, fuel = f + 1 := ⟨fuel - 1, by omega⟩
    have h8 : t < 8 := by omega
    obtain ⟨g1, g2⟩ := n8 h8
    have mb := mz_b hb t h8
    have sb := hm t h8
    have c1 : iz (mz t x y - R t) ≤ 0 ↔ mz t x y - R t ≤ 0 := iz_le (b := 0) ⟨by omega, by omega⟩ ⟨by decide, by decide⟩
    have c2 : iz (mz t x y - R t) = 0 ↔ mz t x y - R t = 0 := iz_eq (b := 0) ⟨by omega, by omega⟩ ⟨by decide, by decide⟩
    rw [f_X3_place_5, if_neg (le8 h8), p_measure h8, cal_some, chk_p g1, g2, hR t h8, iz_sub, lt_eq]
    by_cases q : mz t x y - R t ≤ 0
    · rw [if_pos (c1.mpr q)]
      by_cases q2 : mz t x y - R t = 0
      · rw [if_pos (c2.mpr q2), f_X3_place_43, lt_eq, nI_1]
        obtain ⟨w, h1, h2⟩ := ih (t + 1) f 1 (by omega) (by omega)
        refine ⟨w, h1, ?_⟩
        rcases h2 with ⟨⟨k, k1, k2, k3⟩, h3⟩ | ⟨h3, h4⟩
        · exact Or.inl ⟨⟨k, by omega, k2, k3⟩, h3⟩
        · refine Or.inr ⟨fun k k1 k2 => ?_, Or.inl ⟨⟨t, Nat.le_refl _, h8, by omega⟩, ?_⟩⟩
          · by_cases qq : k = t
            · rw [qq]; omega
            · exact h3 k (by omega) k2
          · rcases h4 with ⟨-, h5⟩ | ⟨-, h5⟩ <;> exact h5
      · rw [if_neg (fun z => q2 (c2.mp z)), f_X3_place_43, lt_eq, nI_1]
        obtain ⟨w, h1, h2⟩ := ih (t + 1) f v (by omega) (by omega)
        refine ⟨w, h1, ?_⟩
        rcases h2 with ⟨⟨k, k1, k2, k3⟩, h3⟩ | ⟨h3, h4⟩
        · exact Or.inl ⟨⟨k, by omega, k2, k3⟩, h3⟩
        · refine Or.inr ⟨fun k k1 k2 => ?_, ?_⟩
          · by_cases qq : k = t
            · rw [qq]; omega
            · exact h3 k (by omega) k2
          · rcases h4 with ⟨⟨k, k1, k2, k3⟩, h5⟩ | ⟨h5, h6⟩
            · exact Or.inl ⟨⟨k, by omega, k2, k3⟩, h5⟩
            · refine Or.inr ⟨fun k k1 k2 => ?_, h6⟩
              by_cases qq : k = t
              · rw [qq]; omega
              · exact h5 k (by omega) k2
    · rw [if_neg (fun z => q (c1.mp z))]
      exact ⟨0, rfl, Or.inl ⟨⟨t, Nat.le_refl _, h8, by omega⟩, rfl⟩⟩
theorem p_place {σ : SS} {p : Nat} {R : Nat → Int} (hR : ∀ k, k < 8 → σ.1 18 p k = iz (R k)) (hm : Sm R) {x y : Int} (hb : pb x y) : ∃ w, f_X3_place p (iz x) (iz y) σ = some (w, σ) ∧ plc R x y 0 2 w := by
  obtain ⟨w, h1, h2⟩ := place_loop hR hm hb 8 0 FU 2 rfl (by show 8 < 5000; omega)
  exact ⟨w, by rw [f_X3_place, ← nI_0]; exact h1, h2⟩
theorem overl_loop {σ : SS} {a b : Nat} {A B : Nat → Int} (hA : ∀ k, k < 8 → σ.1 18 a k = iz (A k)) (hB : ∀ k, k < 8 → σ.1 18 b k = iz (B k)) (mA : Sm A) (mB : Sm B) : ∀ (s t fuel : Nat), t + s = 8 → s < fuel → ((∀ k, t ≤ k → k < 8 → 0 < A k + B (opp k)) → f_X3_overlaps_2 fuel a b (nI t) σ = some (1, σ)) ∧ (¬ (∀ k, t ≤ k → k < 8 → 0 < A k + B (opp k)) → f_X3_overlaps_2 fuel a b (nI t) σ = some (0, σ)) := by
  intro s
  induction s with
  | zero =>
    intro t fuel ht hf
    obtain ⟨f, rfl⟩ : ∃ f, fuel = f + 1 := ⟨fuel - 1, by omega⟩
    have : t = 8 := by omega
    subst this
    rw [f_X3_overlaps_2, if_pos (by decide)]
    exact ⟨fun _ => rfl, fun h => absurd (fun k h1 h2 => by omega) h⟩
  | succ s ih =>
    intro t fuel ht hf
    obtain ⟨f, rfl⟩ : ∃ f, fuel = f + 1 := ⟨fuel - 1, by omega⟩
    have h8 : t < 8 := by omega
    have o8 := opp_lt t h8
    obtain ⟨g1, g2⟩ := n8 h8
    obtain ⟨g3, g4⟩ := n8 o8
    have sA := mA t h8
    have sB := mB _ o8
    have hc : 0 < iz (A t + B (opp t)) ↔ 0 < A t + B (opp t) := iz_lt (a := 0) ⟨by decide, by decide⟩ ⟨by omega, by omega⟩
    rw [f_X3_overlaps_2, if_neg (le8 h8), chk_p g1, p_opposite h8, cal_some, chk_p g3, g2, g4, hA t h8, hB _ o8, iz_add]
    obtain ⟨i1, i2⟩ := ih (t + 1) f (by omega) (by omega)
    by_cases q : 0 < A t + B (opp t)
    · rw [if_pos (hc.mpr q), lt_eq, nI_1]
      refine ⟨fun h => i1 (fun k h1 h2 => h k (by omega) h2), fun h => i2 (fun z => h (fun k h1 h2 => ?_))⟩
      by_cases qq : k = t
      · rw [qq]; exact q
      · exact z k (by omega) h2
    · rw [if_neg (fun z => q (hc.mp z))]
      exact ⟨fun h => absurd (h t (Nat.le_refl _) h8) q, fun _ => rfl⟩
theorem p_overlaps {σ : SS} {a b : Nat} {A B : Nat → Int} (hA : ∀ k, k < 8 → σ.1 18 a k = iz (A k)) (hB : ∀ k, k < 8 → σ.1 18 b k = iz (B k)) (mA : Sm A) (mB : Sm B) : (Ovl A B → f_X3_overlaps a b σ = some (1, σ)) ∧ (¬ Ovl A B → f_X3_overlaps a b σ = some (0, σ)) := by
  obtain ⟨h1, h2⟩ := overl_loop hA hB mA mB 8 0 FU rfl (by show 8 < 5000; omega)
  rw [f_X3_overlaps, ← nI_0]
  exact ⟨fun h => h1 (fun k _ hk => h k hk), fun h => h2 (fun z => h (fun k hk => z k (Nat.zero_le _) hk))⟩
theorem sideOf_loop {σ : SS} {p : Nat} {R : Nat → Int} (h : SH σ p R) {k : Nat} (hk : k < 8) : ∀ (s t fuel : Nat), t + s = (pl R).length → s < fuel → ∃ v, f_X3_sideOf_2 fuel p (nI k) (nI t) σ = some (v, σ) ∧ (((∀ j, t ≤ j → j < (pl R).length → fd R j ≠ k) ∧ v = -4) ∨ ∃ j, t ≤ j ∧ j < (pl R).length ∧ fd R j = k ∧ v = nI j) := by
  have h8 := pl_len R
  intro s
  induction s with
  | zero =>
    intro t fuel ht hf
    obtain ⟨f, rfl⟩ : ∃ f, fuel = f + 1 := ⟨fuel - 1, by omega⟩
    rw [f_X3_sideOf_2, h.2.1, if_pos (nI_le (by omega) (by omega))]
    exact ⟨-4, rfl, Or.inl ⟨fun j _ _ => by omega, rfl⟩⟩
  | succ s ih =>
    intro t fuel ht hf
    obtain ⟨f, rfl⟩ : ∃ f, fuel = f + 1 := ⟨fuel - 1, by omega⟩
    have htl : t < (pl R).length := by omega
    obtain ⟨g1, g2⟩ := n8 (show t < 8 by omega)
    obtain ⟨-, -, a3⟩ := h.2.2 t htl
    have hd := fd_lt htl
    have hc : nI (fd R t) = nI k ↔ fd R t = k := nI_eq (by omega) (by omega)
    rw [f_X3_sideOf_2, h.2.1, if_neg (nI_ge htl (by omega)), chk_p g1, g2, a3]
    by_cases q : fd R t = k
    · rw [if_pos (hc.mpr q)]
      exact ⟨_, rfl, Or.inr ⟨t, Nat.le_refl _, htl, q, rfl⟩⟩
    · rw [if_neg (fun z => q (hc.mp z)), lt_eq, nI_1]
      obtain ⟨v, h1, h2⟩ := ih (t + 1) f (by omega) (by omega)
      refine ⟨v, h1, ?_⟩
      rcases h2 with ⟨h2, h3⟩ | ⟨j, j1, j2, j3, j4⟩
      · refine Or.inl ⟨fun j j1 j2 => ?_, h3⟩
        by_cases qq : j = t
        · rw [qq]; exact q
        · exact h2 j (by omega) j2
      · exact Or.inr ⟨j, by omega, j2, j3, j4⟩
theorem p_sideOf {σ : SS} {p : Nat} {R : Nat → Int} (h : SH σ p R) {k : Nat} (hk : k < 8) : (ld R k = 0 → f_X3_sideOf p (nI k) σ = some (-4, σ)) ∧ (ld R k ≠ 0 → ∃ j, j < (pl R).length ∧ fd R j = k ∧ f_X3_sideOf p (nI k) σ = some (nI j, σ)) := by
  have h8 := pl_len R
  obtain ⟨v, h1, h2⟩ := sideOf_loop h hk (pl R).length 0 FU (by omega) (by show (pl R).length < 5000; omega)
  rw [f_X3_sideOf, ← nI_0]
  constructor
  · intro h0
    rcases h2 with ⟨-, h3⟩ | ⟨j, -, j2, j3, -⟩
    · rw [h1, h3]
    · have := (pl_in j2).2
      rw [j3] at this
      exact absurd h0 this
  · intro h0
    rcases h2 with ⟨h2, -⟩ | ⟨j, -, j2, j3, j4⟩
    · obtain ⟨j, j1, j2⟩ := pl_on hk h0
      exact absurd j2 (h2 j (Nat.zero_le _) j1)
    · exact ⟨j, j2, j3, by rw [h1, j4]⟩
theorem p_along {σ : SS} {p : Nat} {R : Nat → Int} (h : SH σ p R) {j i : Nat} (hj : j < (pl R).length) (hi : i < (pl R).length) : f_X3_alongSide p (nI j) (nI i) σ = some (iz (al (fd R j) (vx R (fd R i)) (vy R (fd R i))), σ) := by
  have h8 := pl_len R
  obtain ⟨g1, g2⟩ := n8 (show j < 8 by omega)
  obtain ⟨g3, g4⟩ := n8 (show i < 8 by omega)
  obtain ⟨-, -, a3⟩ := h.2.2 j hj
  obtain ⟨b1, b2, -⟩ := h.2.2 i hi
  have hd := fd_lt hj
  have hc : nI (fd R j % 4) = 0 ↔ fd R j % 4 = 0 := nI_eq (b := 0) (by omega) (by decide)
  unfold f_X3_alongSide al
  rw [chk_p g1, g2, a3, rem4 hd]
  by_cases q : fd R j % 4 = 0
  · rw [if_pos (hc.mpr q), if_pos q, chk_p g3, g4, b2]
  · rw [if_neg (fun z => q (hc.mp z)), if_neg q, chk_p g3, g4, b1]
theorem al_b {R : Nat → Int} (hm : Sm R) {j k : Nat} (hk : k < 8) : -40000 ≤ al j (vx R k) (vy R k) ∧ al j (vx R k) (vy R k) ≤ 40000 := by
  have := sm_v hm k hk
  unfold al
  split <;> omega
theorem p_ends {σ : SS} {p : Nat} {R : Nat → Int} (h : SH σ p R) (hm : Sm R) {j : Nat} (hj : j < (pl R).length) : f_X3_lowEnd p (nI j) σ = some (iz (loE R (fd R j)), σ) ∧ f_X3_highEnd p (nI j) σ = some (iz (hiE R (fd R j)), σ) := by
  have hfl := fol_lt hj
  obtain ⟨c1, c2⟩ := pl_fol hj
  have e1 := p_along h hj hj
  have e2 := p_along h hj hfl
  rw [← c1, ← c2] at e2
  have b1 := al_b (j := fd R j) hm (fd_lt hj)
  have b2 := al_b (j := fd R j) hm (nxt_lt _ (fd_lt hj))
  have d1 : bd (al (fd R j) (vx R (fd R j)) (vy R (fd R j))) := ⟨by omega, by omega⟩
  have d2 : bd (al (fd R j) (vx R (nxt (fd R j))) (vy R (nxt (fd R j)))) := ⟨by omega, by omega⟩
  constructor
  · unfold f_X3_lowEnd loE
    rw [e1, cal_some, p_following h hj, cal_some, e2, cal_some]
    by_cases q : al (fd R j) (vx R (nxt (fd R j))) (vy R (nxt (fd R j))) < al (fd R j) (vx R (fd R j)) (vy R (fd R j))
    · rw [if_pos ((iz_lt d2 d1).mpr q), Int.min_eq_right (Int.le_of_lt q)]
    · rw [if_neg (fun z => q ((iz_lt d2 d1).mp z)), Int.min_eq_left (Int.not_lt.mp q)]
  · unfold f_X3_highEnd hiE
    rw [e1, cal_some, p_following h hj, cal_some, e2, cal_some]
    by_cases q : al (fd R j) (vx R (fd R j)) (vy R (fd R j)) < al (fd R j) (vx R (nxt (fd R j))) (vy R (nxt (fd R j)))
    · rw [if_pos ((iz_lt d1 d2).mpr q), Int.max_eq_right (Int.le_of_lt q)]
    · rw [if_neg (fun z => q ((iz_lt d1 d2).mp z)), Int.max_eq_left (Int.not_lt.mp q)]
theorem ends_b {R : Nat → Int} (hm : Sm R) {k : Nat} (hk : k < 8) : (-40000 ≤ loE R k ∧ loE R k ≤ 40000) ∧ (-40000 ≤ hiE R k ∧ hiE R k ≤ 40000) := by
  have b1 := al_b (j := k) hm hk
  have b2 := al_b (j := k) hm (nxt_lt _ hk)
  unfold loE hiE
  omega
theorem iz_ifmax {a b : Int} (ha : bd a) (hb : bd b) : (if iz a < iz b then iz b else iz a) = iz (max a b) := by
  by_cases q : a < b
  · rw [if_pos ((iz_lt ha hb).mpr q), Int.max_eq_right (Int.le_of_lt q)]
  · rw [if_neg (fun z => q ((iz_lt ha hb).mp z)), Int.max_eq_left (Int.not_lt.mp q)]
theorem iz_ifmin {a b : Int} (ha : bd a) (hb : bd b) : (if iz b < iz a then iz b else iz a) = iz (min a b) := by
  by_cases q : b < a
  · rw [if_pos ((iz_lt hb ha).mpr q), Int.min_eq_right (Int.le_of_lt q)]
  · rw [if_neg (fun z => q ((iz_lt hb ha).mp z)), Int.min_eq_left (Int.not_lt.mp q)]
theorem p_common {σ : SS} {a b : Nat} {A B : Nat → Int} (hA : SH σ a A) (hB : SH σ b B) (mA : Sm A) (mB : Sm B) {k : Nat} (hk : k < 8) : f_X3_common a (nI k) b σ = some (iz (cmn A B k), σ) := by
  have o8 := opp_lt k hk
  obtain ⟨g1, g2⟩ := n8 hk
  obtain ⟨g3, g4⟩ := n8 o8
  obtain ⟨s1, s2⟩ := p_sideOf hA hk
  obtain ⟨t1, t2⟩ := p_sideOf hB o8
  have lA := pl_len A
  have lB := pl_len B
  unfold f_X3_common cmn
  by_cases qA : ld A k = 0
  · rw [s1 qA, cal_some, p_opposite hk, cal_some]
    have e : ¬ (ld A k ≠ 0 ∧ ld B (opp k) ≠ 0 ∧ A k + B (opp k) = 0) := fun z => z.1 qA
    rw [if_neg e]
    by_cases qB : ld B (opp k) = 0
    · rw [t1 qB, cal_some, if_pos rfl]
      rfl
    · obtain ⟨j, -, -, j3⟩ := t2 qB
      rw [j3, cal_some, if_pos rfl]
      rfl
  · obtain ⟨i, i1, i2, i3⟩ := s2 qA
    rw [i3, cal_some, p_opposite hk, cal_some]
    by_cases qB : ld B (opp k) = 0
    · have e : ¬ (ld A k ≠ 0 ∧ ld B (opp k) ≠ 0 ∧ A k + B (opp k) = 0) := fun z => z.2.1 qB
      rw [if_neg e, t1 qB, cal_some, if_neg (nI_m4 (by omega)), if_pos rfl]
      rfl
    · obtain ⟨j, j1, j2, j3⟩ := t2 qB
      have sA := mA k hk
      have sB := mB _ o8
      have hc : iz (A k + B (opp k)) = 0 ↔ A k + B (opp k) = 0 := iz_eq (b := 0) ⟨by omega, by omega⟩ ⟨by decide, by decide⟩
      rw [j3, cal_some, if_neg (nI_m4 (by omega)), if_neg (nI_m4 (by omega)), chk_p g1, p_opposite hk, cal_some, chk_p g3, g2, g4, hA.1 k hk, hB.1 _ o8, iz_add]
      by_cases q : A k + B (opp k) = 0
      · rw [if_pos (hc.mpr q), if_pos ⟨qA, qB, q⟩]
        obtain ⟨x1, x2⟩ := p_ends hA mA i1
        obtain ⟨y1, y2⟩ := p_ends hB mB j1
        rw [i2] at x1 x2
        rw [j2] at y1 y2
        obtain ⟨b1, b2⟩ := ends_b mA hk
        obtain ⟨b3, b4⟩ := ends_b mB o8
        rw [x1, cal_some, y1, cal_some, lt_eq, x2, cal_some, y2, cal_some, lt_eq, iz_ifmax ⟨by omega, by omega⟩ ⟨by omega, by omega⟩, iz_ifmin ⟨by omega, by omega⟩ ⟨by omega, by omega⟩, iz_sub]
        have := iz_ifmax (a := 0) (b := min (hiE A k) (hiE B (opp k)) - max (loE A k) (loE B (opp k))) ⟨by decide, by decide⟩ ⟨by omega, by omega⟩
        unfold ovr
        rw [← this]
        rfl
      · have e : ¬ (ld A k ≠ 0 ∧ ld B (opp k) ≠ 0 ∧ A k + B (opp k) = 0) := fun z => q z.2.2
        rw [if_neg (fun z => q (hc.mp z)), if_neg e]
        rfl
theorem cmn_b {A B : Nat → Int} (mA : Sm A) (mB : Sm B) {k : Nat} (hk : k < 8) : cmn A B k ≤ 80000 := by
  obtain ⟨b1, b2⟩ := ends_b mA hk
  obtain ⟨b3, b4⟩ := ends_b mB (opp_lt k hk)
  unfold cmn ovr
  split <;> omega
theorem dir_loop {σ : SS} {a b : Nat} {A B : Nat → Int} (hA : SH σ a A) (hB : SH σ b B) (mA : Sm A) (mB : Sm B) : ∀ (s t fuel : Nat), t + s = (pl A).length → s < fuel → ∃ v, f_X3_directionTo_2 fuel a b (nI t) σ = some (v, σ) ∧ (((∀ j, t ≤ j → j < (pl A).length → cmn A B (fd A j) = 0) ∧ v = -4) ∨ ∃ j, j < (pl A).length ∧ 0 < cmn A B (fd A j) ∧ v = nI (fd A j)) := by
  have h8 := pl_len A
  intro s
  induction s with
  | zero =>
    intro t fuel ht hf
    obtain ⟨f, rfl⟩ : ∃ f, fuel = f + 1 := ⟨fuel - 1, by omega⟩
    rw [f_X3_directionTo_2, hA.2.1, if_pos (nI_le (by omega) (by omega))]
    exact ⟨-4, rfl, Or.inl ⟨fun j _ _ => by omega, rfl⟩⟩
  | succ s ih =>
    intro t fuel ht hf
    obtain ⟨f, rfl⟩ : ∃ f, fuel = f + 1 := ⟨fuel - 1, by omega⟩
    have htl : t < (pl A).length := by omega
    obtain ⟨g1, g2⟩ := n8 (show t < 8 by omega)
    obtain ⟨-, -, a3⟩ := hA.2.2 t htl
    have hd := fd_lt htl
    have nn := cmn_nn A B (fd A t)
    have nb := cmn_b mA mB hd
    have hc : iz (cmn A B (fd A t)) ≤ 0 ↔ cmn A B (fd A t) ≤ 0 := iz_le (b := 0) ⟨by omega, by omega⟩ ⟨by decide, by decide⟩
    rw [f_X3_directionTo_2, hA.2.1, if_neg (nI_ge htl (by omega)), chk_p g1, g2, a3, p_common hA hB mA mB hd, cal_some]
    by_cases q : cmn A B (fd A t) ≤ 0
    · rw [if_pos (hc.mpr q), lt_eq, nI_1]
      obtain ⟨v, h1, h2⟩ := ih (t + 1) f (by omega) (by omega)
      refine ⟨v, h1, ?_⟩
      rcases h2 with ⟨h2, h3⟩ | h2
      · refine Or.inl ⟨fun j j1 j2 => ?_, h3⟩
        by_cases qq : j = t
        · rw [qq]; omega
        · exact h2 j (by omega) j2
      · exact Or.inr h2
    · rw [if_neg (fun z => q (hc.mp z)), f_X3_directionTo_24, chk_p g1, g2, a3]
      exact ⟨_, rfl, Or.inr ⟨t, htl, by omega, rfl⟩⟩
theorem p_direction {σ : SS} {a b : Nat} {A B : Nat → Int} (hA : SH σ a A) (hB : SH σ b B) (mA : Sm A) (mB : Sm B) : ((∀ k, k < 8 → cmn A B k = 0) ∧ f_X3_directionTo a b σ = some (-4, σ)) ∨ ∃ k, k < 8 ∧ 0 < cmn A B k ∧ f_X3_directionTo a b σ = some (nI k, σ) := by
  have h8 := pl_len A
  obtain ⟨v, h1, h2⟩ := dir_loop hA hB mA mB (pl A).length 0 FU (by omega) (by show (pl A).length < 5000; omega)
  rw [f_X3_directionTo, ← nI_0]
  rcases h2 with ⟨h2, h3⟩ | ⟨j, j1, j2, j3⟩
  · refine Or.inl ⟨fun k hk => ?_, by rw [h1, h3]⟩
    by_cases q : ld A k = 0
    · unfold cmn
      rw [if_neg (fun z => z.1 q)]
    · obtain ⟨j, j1, j2⟩ := pl_on hk q
      rw [← j2]
      exact h2 j (Nat.zero_le _) j1
  · exact Or.inr ⟨fd A j, fd_lt j1, j2, by rw [h1, j3]⟩
