/-! ===== PURE: what the model reads off a shape ===== -/
theorem sel_ls (p : Nat → Bool) (n : Nat) : (sel p (n + 1)).length = (sel p n).length + (if p n = true then 1 else 0) := by
  cases h : p n with
  | true => rw [sel_t h, len_app]; rfl
  | false => rw [sel_f h]; rfl
theorem w3b {a b c : Bool} (h : a = true ∨ b = true ∨ c = true) : 1 ≤ (if a = true then 1 else 0) + (if b = true then 1 else 0) + (if c = true then 1 else 0) := by
  cases a <;> cases b <;> cases c <;> simp_all
theorem fit_len {e T : Nat → Int} (h : Fit e T) : 3 ≤ (pl T).length := by
  have hn := fit_no3 h
  have e8 : (pl T).length = (if sp T 0 = true then 1 else 0) + (if sp T 1 = true then 1 else 0) + (if sp T 2 = true then 1 else 0) + (if sp T 3 = true then 1 else 0) + (if sp T 4 = true then 1 else 0) + (if sp T 5 = true then 1 else 0) + (if sp T 6 = true then 1 else 0) + (if sp T 7 = true then 1 else 0) := by
    unfold pl
    rw [sel_ls, sel_ls, sel_ls, sel_ls, sel_ls, sel_ls, sel_ls, sel_ls]
    show 0 + _ + _ + _ + _ + _ + _ + _ + _ = _
    omega
  have q : ∀ i, 0 < ld T (rd i) → sp T i = true := fun i hi => decide_eq_true (by omega)
  have q0 := q 0
  have q1 := q 1
  have q2 := q 2
  have q3 := q 3
  have q4 := q 4
  have q5 := q 5
  have q6 := q 6
  have q7 := q 7
  simp only [rd] at q0 q1 q2 q3 q4 q5 q6 q7
  rw [e8]
  clear e8 q
  obtain ⟨n0, n1, n2, n3, n4, n5, n6, n7⟩ := hn
  generalize sp T 0 = b0 at *
  generalize sp T 1 = b1 at *
  generalize sp T 2 = b2 at *
  generalize sp T 3 = b3 at *
  generalize sp T 4 = b4 at *
  generalize sp T 5 = b5 at *
  generalize sp T 6 = b6 at *
  generalize sp T 7 = b7 at *
  have w0 : b0 = true ∨ b1 = true ∨ b2 = true := by
    rcases n0 with z | z | z
    · exact Or.inl (q0 z)
    · exact Or.inr (Or.inl (q1 z))
    · exact Or.inr (Or.inr (q2 z))
  have w1 : b3 = true ∨ b4 = true ∨ b5 = true := by
    rcases n3 with z | z | z
    · exact Or.inl (q3 z)
    · exact Or.inr (Or.inl (q4 z))
    · exact Or.inr (Or.inr (q5 z))
  have w2 : b6 = true ∨ b7 = true ∨ b0 = true := by
    rcases n6 with z | z | z
    · exact Or.inl (q6 z)
    · exact Or.inr (Or.inl (q7 z))
    · exact Or.inr (Or.inr (q0 z))
  have w3 : b1 = true ∨ b2 = true ∨ b3 = true := by
    rcases n1 with z | z | z
    · exact Or.inl (q1 z)
    · exact Or.inr (Or.inl (q2 z))
    · exact Or.inr (Or.inr (q3 z))
  have w4 : b4 = true ∨ b5 = true ∨ b6 = true := by
    rcases n4 with z | z | z
    · exact Or.inl (q4 z)
    · exact Or.inr (Or.inl (q5 z))
    · exact Or.inr (Or.inr (q6 z))
  have w5 : b5 = true ∨ b6 = true ∨ b7 = true := by
    rcases n5 with z | z | z
    · exact Or.inl (q5 z)
    · exact Or.inr (Or.inl (q6 z))
    · exact Or.inr (Or.inr (q7 z))
  have w6 : b2 = true ∨ b3 = true ∨ b4 = true := by
    rcases n2 with z | z | z
    · exact Or.inl (q2 z)
    · exact Or.inr (Or.inl (q3 z))
    · exact Or.inr (Or.inr (q4 z))
  have w7 : b7 = true ∨ b0 = true ∨ b1 = true := by
    rcases n7 with z | z | z
    · exact Or.inl (q7 z)
    · exact Or.inr (Or.inl (q0 z))
    · exact Or.inr (Or.inr (q1 z))
  clear n0 n1 n2 n3 n4 n5 n6 n7 q0 q1 q2 q3 q4 q5 q6 q7
  have z0 := w3b w0
  have z1 := w3b w1
  have z2 := w3b w2
  have z3 := w3b w3
  have z4 := w3b w4
  have z5 := w3b w5
  have z6 := w3b w6
  have z7 := w3b w7
  omega
theorem areaN_loop {σ : SS} {T : Nat → Int} (h : SF σ T) : ∀ (s t fuel : Nat), t + s = (pl T).length → s < fuel → f_X8_areaNow_4 fuel (iz (sumN (fun j => crs T (fd T j)) t)) (nI t) σ = some (iz (sumN (fun j => crs T (fd T j)) (pl T).length), σ) := by
  have h8 := pl_len T
  intro s
  induction s with
  | zero =>
    intro t fuel ht hf
    obtain ⟨f, rfl⟩ : ∃ f, fuel = f + 1 := ⟨fuel - 1, by omega⟩
    have : t = (pl T).length := by omega
    rw [f_X8_areaNow_4, h.1, if_pos (nI_le (by omega) (by omega)), this]
  | succ s ih =>
    intro t fuel ht hf
    obtain ⟨f, rfl⟩ : ∃ f, fuel = f + 1 := ⟨fuel - 1, by omega⟩
    have htl : t < (pl T).length := by omega
    obtain ⟨g1, g2⟩ := n8 (show t < 8 by omega)
    obtain ⟨-, a1, a2, a3, a4⟩ := h.2 t htl
    rw [f_X8_areaNow_4, h.1, if_neg (nI_ge htl (by omega)), chk_p g1, chk_p g1, chk_p g1, chk_p g1, g2, a1, a2, a3, a4, lt_eq, lt_eq, nI_1, iz_mul, iz_mul, iz_sub, iz_add]
    exact ih (t + 1) f (by omega) (by omega)
theorem p_areaNow {σ : SS} {T : Nat → Int} (h : SF σ T) : f_X8_areaNow σ = some (iz (area8 T), σ) := by
  have h8 := pl_len T
  have := areaN_loop h (pl T).length 0 FU (by omega) (by show (pl T).length < 5000; omega)
  rw [area_sum] at this
  rw [f_X8_areaNow]
  exact this
def b01 (b : Bool) : Int32 := if b then 1 else 0
theorem b01_0 (b : Bool) : b01 b = 0 ↔ b = false := by cases b <;> decide
def slb (T : Nat → Int) : Nat → Bool
  | 0 => true
  | t + 1 => slb T t && decide (fd T t % 4 < 2)
def lea (T : Nat → Int) : Nat → Bool
  | 0 => true
  | t + 1 => lea T t && decide (opp (fd T t) = fd T ((t + 2) % 4))
theorem kind_ix : ∀ t, t < 4 → (nI t + (2 : Int32)) - (nI t + (2 : Int32)) / (4 : Int32) * (4 : Int32) = nI ((t + 2) % 4) := by decide +kernel
theorem kind_loop {σ : SS} {T : Nat → Int} (h : SF σ T) (h4 : (pl T).length = 4) : ∀ (s t fuel : Nat), t + s = 4 → s < fuel → f_X8_kindNow_14 fuel (b01 (slb T t)) (b01 (lea T t)) (nI t) σ = f_X8_kindNow_81 (b01 (slb T 4)) (b01 (lea T 4)) σ := by
  intro s
  induction s with
  | zero =>
    intro t fuel ht hf
    obtain ⟨f, rfl⟩ : ∃ f, fuel = f + 1 := ⟨fuel - 1, by omega⟩
    have : t = 4 := by omega
    subst this
    rw [f_X8_kindNow_14, if_pos (by decide)]
  | succ s ih =>
    intro t fuel ht hf
    obtain ⟨f, rfl⟩ : ∃ f, fuel = f + 1 := ⟨fuel - 1, by omega⟩
    obtain ⟨g1, g2⟩ := n8 (show t < 8 by omega)
    have m4 : (t + 2) % 4 < 4 := Nat.mod_lt _ (by decide)
    obtain ⟨g3, g4⟩ := n8 (show (t + 2) % 4 < 8 by omega)
    obtain ⟨a1, -⟩ := h.2 t (by omega)
    obtain ⟨c1, -⟩ := h.2 ((t + 2) % 4) (by omega)
    have hd := fd_lt (T := T) (j := t) (by omega)
    have hd2 := fd_lt (T := T) (j := (t + 2) % 4) (by omega)
    have ho := opp_lt _ hd
    have eo : (nI (fd T t) + (4 : Int32)) - (nI (fd T t) + (4 : Int32)) / (8 : Int32) * (8 : Int32) = nI (opp (fd T t)) := by
      have key : ∀ k, k < 8 → (nI k + (4 : Int32)) - (nI k + (4 : Int32)) / (8 : Int32) * (8 : Int32) = nI (opp k) := by decide +kernel
      exact key _ hd
    have oc : nI (opp (fd T t)) = nI (fd T ((t + 2) % 4)) ↔ opp (fd T t) = fd T ((t + 2) % 4) := nI_eq (by omega) (by omega)
    have i := ih (t + 1) f (by omega) (by omega)
    have hi4 : ¬ (4 : Int32) ≤ nI t := nI_ge (b := 4) (by omega) (by decide)
    -- the second flag
    have s40 : ∀ u, f_X8_kindNow_40 (f_X8_kindNow_14 f) (b01 (lea T t)) (nI t) u σ = f_X8_kindNow_14 f u (b01 (lea T (t + 1))) (nI (t + 1)) σ := by
      intro u
      rw [f_X8_kindNow_40]
      show _ = f_X8_kindNow_14 f u (b01 (lea T t && decide (opp (fd T t) = fd T ((t + 2) % 4)))) (nI (t + 1)) σ
      cases hl : lea T t with
      | false =>
        rw [if_pos (by decide), f_X8_kindNow_73, f_X8_kindNow_74, lt_eq, nI_1]
        rfl
      | true =>
        rw [if_neg (by decide), chk_p g1, kind_ix t (by omega), chk_p g3, g2, g4, a1, c1, eo]
        by_cases q : opp (fd T t) = fd T ((t + 2) % 4)
        · rw [if_pos (oc.mpr q), f_X8_kindNow_74, lt_eq, nI_1, decide_eq_true q]
          rfl
        · rw [if_neg (fun z => q (oc.mp z)), f_X8_kindNow_73, f_X8_kindNow_74, lt_eq, nI_1, decide_eq_false q]
          rfl
    rw [f_X8_kindNow_14, if_neg hi4]
    rw [show slb T (t + 1) = (slb T t && decide (fd T t % 4 < 2)) from rfl] at i
    cases hs : slb T t with
    | false =>
      rw [hs] at i
      rw [if_pos (by decide), f_X8_kindNow_39, s40]
      exact i
    | true =>
      rw [hs, Bool.true_and] at i
      rw [if_neg (by decide), chk_p g1, g2, a1, rem4 hd]
      by_cases q : fd T t % 4 < 2
      · rw [if_neg (show ¬ (2 : Int32) ≤ nI (fd T t % 4) from nI_ge (b := 2) q (by decide)), s40]
        rw [decide_eq_true q] at i
        exact i
      · rw [if_pos (show (2 : Int32) ≤ nI (fd T t % 4) from nI_le (a := 2) (by omega) (by omega)), f_X8_kindNow_39, s40]
        rw [decide_eq_false q] at i
        exact i
theorem slb_sl (T : Nat → Int) : ∀ t, slb T t = true ↔ slN T t = 0 := by
  intro t
  induction t with
  | zero => exact ⟨fun _ => rfl, fun _ => rfl⟩
  | succ t ih =>
    rw [slN_s]
    show (slb T t && decide (fd T t % 4 < 2)) = true ↔ _
    rw [Bool.and_eq_true, ih, decide_eq_true_iff]
    by_cases q : 2 ≤ fd T t % 4
    · rw [if_pos q]; omega
    · rw [if_neg q]; omega
theorem p_kindNow {σ : SS} {T : Nat → Int} (h : SF σ T) (h3 : 3 ≤ (pl T).length) : f_X8_kindNow σ = some (nI (kd T), σ) := by
  have h8 := pl_len T
  have c4 : nI (pl T).length = (4 : Int32) ↔ (pl T).length = 4 := nI_eq (b := 4) (by omega) (by decide)
  have c3 : nI (pl T).length = (3 : Int32) ↔ (pl T).length = 3 := nI_eq (b := 3) (by omega) (by decide)
  have c7 : (7 : Int32) ≤ nI (pl T).length ↔ 7 ≤ (pl T).length := nI_leI (a := 7) (by decide) (by omega)
  unfold f_X8_kindNow kd
  rw [h.1]
  by_cases q4 : (pl T).length = 4
  · rw [if_pos (c4.mpr q4), if_neg (by omega), if_pos q4]
    have := kind_loop h q4 4 0 FU rfl (by show 4 < 5000; omega)
    rw [nI_0] at this
    have e : b01 (slb T 0) = 1 ∧ b01 (lea T 0) = 1 := ⟨rfl, rfl⟩
    rw [e.1, e.2] at this
    rw [this, f_X8_kindNow_81]
    unfold kd4
    have sl := slb_sl T 4
    by_cases qs : slN T 4 = 0
    · rw [if_pos qs, sl.mpr qs, if_neg (by decide)]
      rfl
    · have : slb T 4 = false := by
        cases hb : slb T 4 with
        | false => rfl
        | true => exact absurd (sl.mp hb) qs
      rw [if_neg qs, this, if_pos (by decide)]
      have d0 := fd_lt (T := T) (j := 0) (by omega)
      have d1 := fd_lt (T := T) (j := 1) (by omega)
      have le : lea T 4 = true ↔ fd T 2 = opp (fd T 0) ∧ fd T 3 = opp (fd T 1) := by
        show ((((true && decide (opp (fd T 0) = fd T 2)) && decide (opp (fd T 1) = fd T 3)) && decide (opp (fd T 2) = fd T 0)) && decide (opp (fd T 3) = fd T 1)) = true ↔ _
        simp only [Bool.and_eq_true, decide_eq_true_iff]
        constructor
        · intro z
          exact ⟨z.1.1.1.2.symm, z.1.1.2.symm⟩
        · intro z
          exact ⟨⟨⟨⟨trivial, z.1.symm⟩, z.2.symm⟩, by rw [z.1, opp_opp _ d0]⟩, by rw [z.2, opp_opp _ d1]⟩
      by_cases ql : fd T 2 = opp (fd T 0) ∧ fd T 3 = opp (fd T 1)
      · rw [if_pos ql, le.mpr ql, if_neg (by decide)]
        rfl
      · have : lea T 4 = false := by
          cases hb : lea T 4 with
          | false => rfl
          | true => exact absurd (le.mp hb) ql
        rw [if_neg ql, this, if_pos (by decide)]
        rfl
  · rw [if_neg (fun z => q4 (c4.mp z))]
    by_cases q3 : (pl T).length = 3
    · rw [if_pos (c3.mpr q3), if_pos q3]
      rfl
    · rw [if_neg (fun z => q3 (c3.mp z)), if_neg q3, if_neg q4]
      by_cases q7 : 7 ≤ (pl T).length
      · rw [if_pos (c7.mpr q7), if_neg (by omega), if_neg (by omega)]
        rfl
      · rw [if_neg (fun z => q7 (c7.mp z))]
        by_cases q5 : (pl T).length = 5
        · rw [if_pos q5]; rfl
        · rw [if_neg q5, if_pos (by omega)]; rfl
