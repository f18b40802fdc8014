/-! ===== PURE: each call keeps the tie ===== -/
theorem st_rule {σ : SS} (h : TIE σ) (a b c d : Int32) : ST σ (f_X7_rule a b c d) (f_X8_rule a b c d) := by
  obtain ⟨⟨n, fa, fb, fj, fp, on, hU⟩, P, hp1, hp2⟩ := h.2.1
  obtain ⟨r, σ1, σ2, x, y, u, f⟩ := q_rule hU a b c d
  have key : σ2.1 7 0 5 = σ.1 7 0 5 := by
    by_cases hok : okRule a b c d
    · by_cases hn : n = 40
      · subst hn
        rw [p_X7_rule_full hok hU.2.1.1] at x
        cases x
        rw [p_X8_rule_full hok hU.2.1.2] at y
        cases y
        rfl
      · have hn1 := hU.1
        have hl : n < 40 := by omega
        rw [p_X7_rule_ok hok hl hU.2.1.1] at x
        cases x
        have e25 : (rule7 σ n a b c d).1 25 0 35 = nI n := hU.2.1.2
        rw [p_X8_rule_ok hok hl e25] at y
        cases y
        simp (config := { decide := true }) only [rule8, rule7, up_rd, false_and, true_and, if_false]
    · rw [p_X7_rule_bad hok] at x
      cases x
      rw [p_X8_rule_bad hok] at y
      cases y
      rfl
  exact ⟨r, σ1, σ2, x, y, rl_tie h ⟨u, P, hp1, by rw [key]; exact hp2⟩ f⟩
theorem st_block {σ : SS} (h : TIE σ) (v1 v2 v3 : Int32) : ST σ (f_X7_block v1 v2 v3) (f_X8_block v1 v2 v3) := by
  obtain ⟨⟨hM, hM2⟩, ⟨⟨rn, fa, fb, fj, fp, on, hU⟩, hp⟩, n, R, th, og, ex, ba, an, m, wh, it, W, wv, hP, hA, hE⟩ := id h
  exact ST.mu h (fun n R th og ex ba an m a _ => q_block hM a _ v1 v2 v3)
theorem st_cut {σ : SS} (h : TIE σ) (v1 v2 v3 : Int32) : ST σ (f_X7_cut v1 v2 v3) (f_X8_cut v1 v2 v3) := by
  obtain ⟨⟨hM, hM2⟩, ⟨⟨rn, fa, fb, fj, fp, on, hU⟩, hp⟩, n, R, th, og, ex, ba, an, m, wh, it, W, wv, hP, hA, hE⟩ := id h
  exact ST.mu h (fun n R th og ex ba an m a _ => q_cut hM a _ v1 v2 v3)
theorem st_move {σ : SS} (h : TIE σ) (v1 v2 v3 : Int32) : ST σ (f_X7_move v1 v2 v3) (f_X8_move v1 v2 v3) := by
  obtain ⟨⟨hM, hM2⟩, ⟨⟨rn, fa, fb, fj, fp, on, hU⟩, hp⟩, n, R, th, og, ex, ba, an, m, wh, it, W, wv, hP, hA, hE⟩ := id h
  exact ST.mu h (fun n R th og ex ba an m a _ => q_move hM a _ v1 v2 v3)
theorem st_turn {σ : SS} (h : TIE σ) (v1 v2 : Int32) : ST σ (f_X7_turn v1 v2) (f_X8_turn v1 v2) := by
  obtain ⟨⟨hM, hM2⟩, ⟨⟨rn, fa, fb, fj, fp, on, hU⟩, hp⟩, n, R, th, og, ex, ba, an, m, wh, it, W, wv, hP, hA, hE⟩ := id h
  exact ST.mu h (fun n R th og ex ba an m a _ => q_turn hM2 a _ v1 v2)
theorem st_scrap {σ : SS} (h : TIE σ) (v1 : Int32) : ST σ (f_X7_scrap v1) (f_X8_scrap v1) := by
  obtain ⟨⟨hM, hM2⟩, ⟨⟨rn, fa, fb, fj, fp, on, hU⟩, hp⟩, n, R, th, og, ex, ba, an, m, wh, it, W, wv, hP, hA, hE⟩ := id h
  exact ST.mu h (fun n R th og ex ba an m a b => q_scrap a b v1)
theorem st_bound {σ : SS} (h : TIE σ) (v1 v2 : Int32) : ST σ (f_X7_bound v1 v2) (f_X8_bound v1 v2) := by
  obtain ⟨⟨hM, hM2⟩, ⟨⟨rn, fa, fb, fj, fp, on, hU⟩, hp⟩, n, R, th, og, ex, ba, an, m, wh, it, W, wv, hP, hA, hE⟩ := id h
  exact ST.ro h (q_bound hP.1 v1 v2)
theorem st_about {σ : SS} (h : TIE σ) (v1 v2 : Int32) : ST σ (f_X7_about v1 v2) (f_X8_about v1 v2) := by
  obtain ⟨⟨hM, hM2⟩, ⟨⟨rn, fa, fb, fj, fp, on, hU⟩, hp⟩, n, R, th, og, ex, ba, an, m, wh, it, W, wv, hP, hA, hE⟩ := id h
  exact ST.ro h (q_about hM hP.1 v1 v2)
theorem st_corner {σ : SS} (h : TIE σ) (v1 v2 v3 : Int32) : ST σ (f_X7_corner v1 v2 v3) (f_X8_corner v1 v2 v3) := by
  obtain ⟨⟨hM, hM2⟩, ⟨⟨rn, fa, fb, fj, fp, on, hU⟩, hp⟩, n, R, th, og, ex, ba, an, m, wh, it, W, wv, hP, hA, hE⟩ := id h
  exact ST.ro h (q_corner hM hP.1 v1 v2 v3)
theorem st_side {σ : SS} (h : TIE σ) (v1 v2 : Int32) : ST σ (f_X7_side v1 v2) (f_X8_side v1 v2) := by
  obtain ⟨⟨hM, hM2⟩, ⟨⟨rn, fa, fb, fj, fp, on, hU⟩, hp⟩, n, R, th, og, ex, ba, an, m, wh, it, W, wv, hP, hA, hE⟩ := id h
  exact ST.ro h (q_side hM hP.1 v1 v2)
theorem st_area {σ : SS} (h : TIE σ) (v1 : Int32) : ST σ (f_X7_area v1) (f_X8_area v1) := by
  obtain ⟨⟨hM, hM2⟩, ⟨⟨rn, fa, fb, fj, fp, on, hU⟩, hp⟩, n, R, th, og, ex, ba, an, m, wh, it, W, wv, hP, hA, hE⟩ := id h
  exact ST.ro h (q_area hM hP.1 v1)
theorem st_volume {σ : SS} (h : TIE σ) (v1 : Int32) : ST σ (f_X7_volume v1) (f_X8_volume v1) := by
  obtain ⟨⟨hM, hM2⟩, ⟨⟨rn, fa, fb, fj, fp, on, hU⟩, hp⟩, n, R, th, og, ex, ba, an, m, wh, it, W, wv, hP, hA, hE⟩ := id h
  exact ST.ro64 h (q_volume hM hP.1 v1)
theorem st_inside {σ : SS} (h : TIE σ) (v1 v2 v3 : Int32) : ST σ (f_X7_inside v1 v2 v3) (f_X8_inside v1 v2 v3) := by
  obtain ⟨⟨hM, hM2⟩, ⟨⟨rn, fa, fb, fj, fp, on, hU⟩, hp⟩, n, R, th, og, ex, ba, an, m, wh, it, W, wv, hP, hA, hE⟩ := id h
  exact ST.ro h (q_inside hM hP.1 v1 v2 v3)
theorem st_waste {σ : SS} (h : TIE σ) (v1 : Int32) : ST σ (f_X7_waste v1) (f_X8_waste v1) := by
  obtain ⟨⟨hM, hM2⟩, ⟨⟨rn, fa, fb, fj, fp, on, hU⟩, hp⟩, n, R, th, og, ex, ba, an, m, wh, it, W, wv, hP, hA, hE⟩ := id h
  exact ST.ro h (q_waste hM hP.1 v1)
theorem st_near {σ : SS} (h : TIE σ) (v1 v2 : Int32) : ST σ (f_X7_near v1 v2) (f_X8_near v1 v2) := by
  obtain ⟨⟨hM, hM2⟩, ⟨⟨rn, fa, fb, fj, fp, on, hU⟩, hp⟩, n, R, th, og, ex, ba, an, m, wh, it, W, wv, hP, hA, hE⟩ := id h
  exact ST.ro h (q_near hM hP.1 v1 v2)
theorem st_touch {σ : SS} (h : TIE σ) (v1 v2 v3 : Int32) : ST σ (f_X7_touch v1 v2 v3) (f_X8_touch v1 v2 v3) := by
  obtain ⟨⟨hM, hM2⟩, ⟨⟨rn, fa, fb, fj, fp, on, hU⟩, hp⟩, n, R, th, og, ex, ba, an, m, wh, it, W, wv, hP, hA, hE⟩ := id h
  exact ST.ro h (q_touch hM hP.1 v1 v2 v3)
theorem st_above {σ : SS} (h : TIE σ) (v1 v2 v3 : Int32) : ST σ (f_X7_above v1 v2 v3) (f_X8_above v1 v2 v3) := by
  obtain ⟨⟨hM, hM2⟩, ⟨⟨rn, fa, fb, fj, fp, on, hU⟩, hp⟩, n, R, th, og, ex, ba, an, m, wh, it, W, wv, hP, hA, hE⟩ := id h
  exact ST.id h (q_above hU v1 v2 v3)
theorem st_treats {σ : SS} (h : TIE σ) (v1 v2 : Int32) : ST σ (f_X7_treats v1 v2) (f_X8_treats v1 v2) := by
  obtain ⟨⟨hM, hM2⟩, ⟨⟨rn, fa, fb, fj, fp, on, hU⟩, hp⟩, n, R, th, og, ex, ba, an, m, wh, it, W, wv, hP, hA, hE⟩ := id h
  exact ST.id h (q_treats hU v1 v2)
theorem st_undecided {σ : SS} (h : TIE σ) : ST σ f_X7_undecided f_X8_undecided := by
  obtain ⟨⟨hM, hM2⟩, ⟨⟨rn, fa, fb, fj, fp, on, hU⟩, hp⟩, n, R, th, og, ex, ba, an, m, wh, it, W, wv, hP, hA, hE⟩ := id h
  exact ST.id h (q_undecided hU)
theorem st_meet {σ : SS} (h : TIE σ) (v1 v2 : Int32) : ST σ (f_X7_meet v1 v2) (f_X8_meet v1 v2) := by
  obtain ⟨⟨hM, hM2⟩, ⟨⟨rn, fa, fb, fj, fp, on, hU⟩, hp⟩, n, R, th, og, ex, ba, an, m, wh, it, W, wv, hP, hA, hE⟩ := id h
  exact ST.ro h (q_meet hM hP.1 hU v1 v2)
theorem st_walked {σ : SS} (h : TIE σ) (v1 : Int32) : ST σ (f_X7_walked v1) (f_X8_walked v1) := by
  obtain ⟨⟨hM, hM2⟩, ⟨⟨rn, fa, fb, fj, fp, on, hU⟩, hp⟩, n, R, th, og, ex, ba, an, m, wh, it, W, wv, hP, hA, hE⟩ := id h
  exact ST.so h (q_walked hA v1)
theorem st_walk {σ : SS} (h : TIE σ) (v1 v2 : Int32) : ST σ (f_X7_walk v1 v2) (f_X8_walk v1 v2) := by
  obtain ⟨⟨hM, hM2⟩, ⟨⟨rn, fa, fb, fj, fp, on, hU⟩, hp⟩, n, R, th, og, ex, ba, an, m, wh, it, W, wv, hP, hA, hE⟩ := id h
  exact ST.so h (q_walk hA v1 v2)
theorem st_weight {σ : SS} (h : TIE σ) (v1 : Int32) : ST σ (f_X7_weight v1) (f_X8_weight v1) := by
  obtain ⟨⟨hM, hM2⟩, ⟨⟨rn, fa, fb, fj, fp, on, hU⟩, hp⟩, n, R, th, og, ex, ba, an, m, wh, it, W, wv, hP, hA, hE⟩ := id h
  exact ST.so h (q_weight hM hP.1 hA hE v1)
theorem st_price {σ : SS} (h : TIE σ) (v1 : Int32) : ST σ (f_X7_price v1) (f_X8_price v1) := by
  obtain ⟨⟨hM, hM2⟩, ⟨⟨rn, fa, fb, fj, fp, on, hU⟩, hp⟩, n, R, th, og, ex, ba, an, m, wh, it, W, wv, hP, hA, hE⟩ := id h
  exact ST.so h (q_price hM hP.1 hA hE v1)
theorem st_check {σ : SS} (h : TIE σ) (v1 : Int32) : ST σ (f_X7_check v1) (f_X8_check v1) := by
  obtain ⟨⟨hM, hM2⟩, ⟨⟨rn, fa, fb, fj, fp, on, hU⟩, hp⟩, n, R, th, og, ex, ba, an, m, wh, it, W, wv, hP, hA, hE⟩ := id h
  exact ST.so h (q_check hM hP.1 hA hE v1)
theorem st_undo {σ : SS} (h : TIE σ) : ST σ f_X7_undo f_X8_undo := by
  obtain ⟨⟨hM, hM2⟩, ⟨⟨rn, fa, fb, fj, fp, on, hU⟩, hp⟩, n, R, th, og, ex, ba, an, m, wh, it, W, wv, hP, hA, hE⟩ := id h
  exact ST.mu h (fun n R th og ex ba an m a b => q_undo a b)
theorem st_count {σ : SS} (h : TIE σ) (v1 : Int32) : ST σ (f_X7_count v1) (f_X8_count v1) := by
  obtain ⟨⟨hM, hM2⟩, ⟨⟨rn, fa, fb, fj, fp, on, hU⟩, hp⟩, n, R, th, og, ex, ba, an, m, wh, it, W, wv, hP, hA, hE⟩ := id h
  exact ST.ro h (q_count hP.1 hU hA.1.1 v1)
theorem lg_self (x : Int64) : lg_cmp x x = 0 := by
  unfold lg_cmp
  rw [if_neg (show ¬ x > x from Int64.lt_irrefl), if_pos rfl]
theorem step_ok {LL : Nat} {xs : Nat → Int32} {K : Int32 → SS → Option (Int32 × SS)} {v : Int32} {σ : SS} {F7 F8 : SS → Option (Int32 × SS)} (hs : ST σ F7 F8) (hK : ∀ τ, TIE τ → ∃ σ', K (v + 5) τ = some (1, σ')) : ∃ σ', cal (F7 σ) (fun x s => cal (F8 s) (fun y t => if x = y then (f_L_law_1142 LL xs K v t) else (some ((0 : Int32), t)))) = some (1, σ') := by
  obtain ⟨r, σ1, σ2, a, b, c⟩ := hs
  obtain ⟨σ', e⟩ := hK σ2 c
  refine ⟨σ', ?_⟩
  rw [a, cal_some, b, cal_some, if_pos rfl, f_L_law_1142, lt_eq, e]
theorem step_ok64 {LL : Nat} {xs : Nat → Int32} {K : Int32 → SS → Option (Int32 × SS)} {v : Int32} {σ : SS} {F7 F8 : SS → Option (Int64 × SS)} (hs : ST σ F7 F8) (hK : ∀ τ, TIE τ → ∃ σ', K (v + 5) τ = some (1, σ')) : ∃ σ', cal (F7 σ) (fun x s => cal (F8 s) (fun y t => if (lg_cmp x y) = 0 then (f_L_law_1142 LL xs K v t) else (some ((0 : Int32), t)))) = some (1, σ') := by
  obtain ⟨r, σ1, σ2, a, b, c⟩ := hs
  obtain ⟨σ', e⟩ := hK σ2 c
  refine ⟨σ', ?_⟩
  rw [a, cal_some, b, cal_some, if_pos (lg_self r), f_L_law_1142, lt_eq, e]
