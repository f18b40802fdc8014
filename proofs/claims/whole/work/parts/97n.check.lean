/-! ===== PURE: check(), both sides ===== -/
theorem ck8_loop {n : Nat} {R : Nat → Nat → Int} {th og : Nat → Nat} {ex : Nat → Bool} {ba : Nat → Int} {an : Nat} {m : Nat → Nat} {wh : Nat → Nat → Bool} {it : Nat → Nat → Nat} {W wv : Nat → Nat} {S : Nat → Bool} {a : Nat} (ha : a < an) (hin : ∀ x, x ∈ Wl m wh it a → x < n ∧ ex x = true) : ∀ (s t fuel : Nat) (σ : SS), t + s = W a → s < fuel → MTb σ → PC σ n R th og ex ba → AS σ an m wh it W wv → (∀ b, b < an → σ.1 85 0 b = nI (W b)) → (∀ q, q < 60 → σ.1 87 0 q = b01 (S q)) → (∀ q, q < 60 → σ.1 88 0 q = 0 ∨ rsP R S n q = true) → ∃ σ', f_X8_check_75 fuel (nI a) (nI t) σ = some (ckf (rsP R S n) (Wl m wh it a) s t, σ') ∧ fri PSc σ σ' := by
  intro s
  induction s with
  | zero =>
    intro t fuel σ ht hf hM hP h hK h87 h88
    obtain ⟨f, rfl⟩ : ∃ f, fuel = f + 1 := ⟨fuel - 1, by omega⟩
    have hW := (h.hW a ha).2
    obtain ⟨r1, r2, r3⟩ := row_at h.1.1 ha
    rw [f_X8_check_75, chk_p r1, r2, hK a ha, if_pos (nI_le (by omega) (by omega))]
    exact ⟨σ, rfl, fri.rf _ _⟩
  | succ s ih =>
    intro t fuel σ ht hf hM hP h hK h87 h88
    obtain ⟨f, rfl⟩ : ∃ f, fuel = f + 1 := ⟨fuel - 1, by omega⟩
    have hn := h.1.1.1
    have hn6 := hP.1.1
    have hW := (h.hW a ha).2
    obtain ⟨r1, r2, r3⟩ := row_at h.1.1 ha
    have hl := Wl_len h.2.1 hn h.hW a ha
    obtain ⟨p1, p2⟩ := hin _ (gd_mem (show t < (Wl m wh it a).length by omega))
    generalize hx : gd (Wl m wh it a) t = x at p1 p2
    obtain ⟨g1, g2⟩ := n60 (show x < 60 by omega)
    have step : ∀ τ, fri PN σ τ → rsP R S n x = true → ∃ σ', f_X8_check_111 (f_X8_check_75 f) (nI a) (nI t) (nI x) τ = some (ckf (rsP R S n) (Wl m wh it a) (s + 1) t, σ') ∧ fri PSc σ σ' := by
      intro τ fτ hr
      have fs : fri PSc σ (up τ 88 0 x 1) := (fτ.mono (fun _ _ _ => PN_Sc)).up (by unfold PSc; omega)
      obtain ⟨σ', q1, q2⟩ := ih (t + 1) f (up τ 88 0 x 1) (by omega) (by omega) (hM.fr fs PSc_m) (hP.fr fs PSc_pc) (h.fr fs.p PSc_as)
        (fun b hb => by
          have u : (up τ 88 0 x 1).1 85 0 b = τ.1 85 0 b := by rw [up_rd, if_neg (by omega)]
          rw [u, fτ.1 85 0 b (by unfold PN PT PG PO PTw; omega)]; exact hK b hb)
        (fun q hq => by
          have u : (up τ 88 0 x 1).1 87 0 q = τ.1 87 0 q := by rw [up_rd, if_neg (by omega)]
          rw [u, fτ.1 87 0 q (by unfold PN PT PG PO PTw; omega)]; exact h87 q hq)
        (fun q hq => by
          by_cases e : q = x
          · rw [e]; exact Or.inr hr
          · have u : (up τ 88 0 x 1).1 88 0 q = τ.1 88 0 q := by rw [up_rd, if_neg (by omega)]
            rw [u, fτ.1 88 0 q (by unfold PN PT PG PO PTw; omega)]; exact h88 q hq)
      refine ⟨σ', ?_, fs.tr q2⟩
      rw [f_X8_check_111, chk_p g1, g2, lt_eq, lt_eq, nI_1, q1, ckf, hx, if_pos hr]
    rw [f_X8_check_75, chk_p r1, r2, hK a ha, if_neg (nI_ge (by omega) (by omega)), p_walkedAt hn h.2.1 h.hW h.mi hK ha (by omega), cal_some, hx, chk_p g1, g2]
    by_cases q : σ.1 88 0 x = 0
    · rw [if_pos q]
      obtain ⟨σ1, b1, b2⟩ := p_rests8 hM hP h87 p1
      rw [b1, cal_some]
      by_cases hr : rsP R S n x = true
      · rw [hr, if_neg (show ¬ b01 true = 0 by decide)]
        exact step σ1 b2 hr
      · have hr' : rsP R S n x = false := by cases z : rsP R S n x; rfl; exact absurd z hr
        rw [hr', if_pos (show b01 false = 0 from rfl), ckf, hx, if_neg hr]
        exact ⟨σ1, rfl, b2.mono (fun _ _ _ => PN_Sc)⟩
    · rw [if_neg q]
      rcases h88 x (by omega) with z | z
      · exact absurd z q
      · exact step σ (fri.rf _ _) z
theorem mk8_loop {an : Nat} {m : Nat → Nat} {wh : Nat → Nat → Bool} {it : Nat → Nat → Nat} {W wv : Nat → Nat} {a : Nat} (ha : a < an) (hin : ∀ x, x ∈ Wl m wh it a → x < 60) : ∀ (s t fuel : Nat) (σ : SS), t + s = W a → s < fuel → AS σ an m wh it W wv → (∀ b, b < an → σ.1 85 0 b = nI (W b)) → (∀ q, q < 60 → σ.1 87 0 q = b01 (sT (Wl m wh it a) t q)) → (∀ q, q < 60 → σ.1 88 0 q = 0) → ∃ σ', f_X8_check_45 fuel (nI a) (nI t) σ = f_X8_check_73 (nI a) σ' ∧ fri PSc σ σ' ∧ (∀ b, b < an → σ'.1 85 0 b = nI (W b)) ∧ (∀ q, q < 60 → σ'.1 87 0 q = b01 (sT (Wl m wh it a) (W a) q)) ∧ (∀ q, q < 60 → σ'.1 88 0 q = 0) := by
  intro s
  induction s with
  | zero =>
    intro t fuel σ ht hf h hK h87 h88
    obtain ⟨f, rfl⟩ : ∃ f, fuel = f + 1 := ⟨fuel - 1, by omega⟩
    have hW := (h.hW a ha).2
    obtain ⟨r1, r2, r3⟩ := row_at h.1.1 ha
    have e : t = W a := by omega
    rw [f_X8_check_45, chk_p r1, r2, hK a ha, if_pos (nI_le (by omega) (by omega))]
    exact ⟨σ, rfl, fri.rf _ _, hK, by rw [← e]; exact h87, h88⟩
  | succ s ih =>
    intro t fuel σ ht hf h hK h87 h88
    obtain ⟨f, rfl⟩ : ∃ f, fuel = f + 1 := ⟨fuel - 1, by omega⟩
    have hn := h.1.1.1
    have hW := (h.hW a ha).2
    obtain ⟨r1, r2, r3⟩ := row_at h.1.1 ha
    have hl := Wl_len h.2.1 hn h.hW a ha
    have p1 := hin _ (gd_mem (show t < (Wl m wh it a).length by omega))
    obtain ⟨g1, g2⟩ := n60 p1
    have fs : fri PSc σ (up σ 87 0 (gd (Wl m wh it a) t) 1) := (fri.rf _ _).up (by unfold PSc; omega)
    obtain ⟨σ', q1, q2, q3⟩ := ih (t + 1) f (up σ 87 0 (gd (Wl m wh it a) t) 1) (by omega) (by omega) (h.fr fs.p PSc_as)
      (fun b hb => by
        have u : (up σ 87 0 (gd (Wl m wh it a) t) 1).1 85 0 b = σ.1 85 0 b := by rw [up_rd, if_neg (by omega)]
        rw [u]; exact hK b hb)
      (fun q hq => by
        by_cases e : gd (Wl m wh it a) t = q
        · rw [up_rd, if_pos ⟨rfl, rfl, e.symm⟩, sT, decide_eq_true e, Bool.or_true]; rfl
        · have u : (up σ 87 0 (gd (Wl m wh it a) t) 1).1 87 0 q = σ.1 87 0 q := by rw [up_rd, if_neg (fun z => e z.2.2.symm)]
          rw [u, h87 q hq, sT, decide_eq_false e, Bool.or_false])
      (fun q hq => by
        have u : (up σ 87 0 (gd (Wl m wh it a) t) 1).1 88 0 q = σ.1 88 0 q := by rw [up_rd, if_neg (by omega)]
        rw [u]; exact h88 q hq)
    refine ⟨σ', ?_, fs.tr q2, q3⟩
    rw [f_X8_check_45, chk_p r1, r2, hK a ha, if_neg (nI_ge (by omega) (by omega)), p_walkedAt hn h.2.1 h.hW h.mi hK ha (by omega), cal_some, chk_p g1, g2, lt_eq, lt_eq, nI_1]
    exact q1
theorem cl8_loop {v : Int32} : ∀ (s t fuel : Nat) (σ : SS), t + s = 60 → s < fuel → (∀ q, q < t → σ.1 87 0 q = 0 ∧ σ.1 88 0 q = 0) → ∃ σ', f_X8_check_17 fuel v (nI t) σ = f_X8_check_43 v σ' ∧ fri (fun r _ _ => r = 87 ∨ r = 88) σ σ' ∧ (∀ q, q < 60 → σ'.1 87 0 q = 0 ∧ σ'.1 88 0 q = 0) := by
  intro s
  induction s with
  | zero =>
    intro t fuel σ ht hf h
    obtain ⟨f, rfl⟩ : ∃ f, fuel = f + 1 := ⟨fuel - 1, by omega⟩
    have e : t = 60 := by omega
    rw [f_X8_check_17, if_pos (show (60 : Int32) ≤ nI t from nI_le (a := 60) (by omega) (by omega))]
    exact ⟨σ, rfl, fri.rf _ _, by rw [← e]; exact h⟩
  | succ s ih =>
    intro t fuel σ ht hf h
    obtain ⟨f, rfl⟩ : ∃ f, fuel = f + 1 := ⟨fuel - 1, by omega⟩
    obtain ⟨g1, g2⟩ := n60 (show t < 60 by omega)
    obtain ⟨σ', q1, q2, q3⟩ := ih (t + 1) f (up (up σ 87 0 t 0) 88 0 t 0) (by omega) (by omega) (fun q hq => by
      have u1 : (up (up σ 87 0 t 0) 88 0 t 0).1 87 0 q = (up σ 87 0 t 0).1 87 0 q := by rw [up_rd, if_neg (by omega)]
      rw [u1]
      by_cases e : q = t
      · rw [up_rd, up_rd, if_pos ⟨rfl, rfl, e⟩, if_pos ⟨rfl, rfl, e⟩]; exact ⟨rfl, rfl⟩
      · have u2 : (up σ 87 0 t 0).1 87 0 q = σ.1 87 0 q := by rw [up_rd, if_neg (fun z => e z.2.2)]
        have u3 : (up (up σ 87 0 t 0) 88 0 t 0).1 88 0 q = (up σ 87 0 t 0).1 88 0 q := by rw [up_rd, if_neg (fun z => e z.2.2)]
        have u4 : (up σ 87 0 t 0).1 88 0 q = σ.1 88 0 q := by rw [up_rd, if_neg (by omega)]
        rw [u2, u3, u4]
        exact h q (by omega))
    refine ⟨σ', ?_, (((fri.rf _ _).up (Or.inl rfl)).up (Or.inr rfl)).tr q2, q3⟩
    rw [f_X8_check_17, if_neg (show ¬ (60 : Int32) ≤ nI t from nI_ge (b := 60) (by omega) (by omega)), chk_p g1, g2, lt_eq, chk_p g1, lt_eq, lt_eq, nI_1]
    exact q1
theorem q_check {σ : SS} (hM : MTb σ) {n : Nat} {R : Nat → Nat → Int} {th og : Nat → Nat} {ex : Nat → Bool} {ba : Nat → Int} (hP : PC σ n R th og ex ba) {an : Nat} {m : Nat → Nat} {wh : Nat → Nat → Bool} {it : Nat → Nat → Nat} {W wv : Nat → Nat} (h : AS σ an m wh it W wv) (hE : AE n ex an m wh it) (v : Int32) : SO σ (f_X7_check v) (f_X8_check v) := by
  have hn := h.1.1.1
  have hn6 := hP.1.1
  rcases has_c h.1.1 v with ⟨a, ha, rfl, h7, h8⟩ | ⟨h7, h8⟩
  · have hW := (h.hW a ha).2
    have hl := Wl_len h.2.1 hn h.hW a ha
    have hin := Wl_in h.2.1 hn hE a ha
    have h60 : ∀ x, x ∈ Wl m wh it a → x < 60 := fun x hx => by have := (hin x hx).1; omega
    obtain ⟨σ1, g1, g2, g3⟩ := p_gather h ha
    have gs : fri PSc σ σ1 := g3.mono (fun _ _ _ => PW_Sc)
    have h1 := h.fr g3.p PW_as
    have hP1 := hP.fr gs PSc_pc
    obtain ⟨w, w1, w2⟩ := gth_loop g2 (by omega) h60 (Wl m wh it a).length 0 FU 0 (by omega) (by show (Wl m wh it a).length < 5000; omega) (fun q _ => bq_0 q)
    rw [hl] at w2
    have hS : ∀ q, sT (Wl m wh it a) (W a) q = true → q < n ∧ ex q = true := fun q => sT_in hin (W a) q (by omega)
    have l7 := ck7_loop hP1 hS w2 g2 (by omega) hin (Wl m wh it a).length 0 FU 0 (by omega) (by show (Wl m wh it a).length < 5000; omega) (fun q _ z => by rw [bq_0] at z; cases z)
    obtain ⟨σ2, vv, c1, c2, c3⟩ := h1.cw
    obtain ⟨σ3, d1, d2, d3⟩ := cl8_loop (v := nI a) 60 0 FU σ2 rfl (by show 60 < 5000; omega) (fun q hq => by omega)
    have d2' : fri PSc σ2 σ3 := d2.mono (fun r i k z => by unfold PSc; omega)
    have f13 := c3.tr d2'
    obtain ⟨σ4, e1, e2, e3, e4, e5⟩ := mk8_loop ha h60 (W a) 0 FU σ3 (by omega) (by show W a < 5000; omega) (h1.fr f13.p PSc_as) (fun b hb => by rw [d2.1 85 0 b (by omega)]; exact c2 b hb) (fun q hq => (d3 q hq).1) (fun q hq => (d3 q hq).2)
    have f14 := f13.tr e2
    obtain ⟨σ5, k1, k2⟩ := ck8_loop ha hin (R := R) (th := th) (og := og) (ba := ba) (W := W) (wv := wv) (S := sT (Wl m wh it a) (W a)) (W a) 0 FU σ4 (by omega) (by show W a < 5000; omega) ((hM.fr gs PSc_m).fr f14 PSc_m) (hP1.fr f14 PSc_pc) (h1.fr f14.p PSc_as) e3 e4 (fun q hq => Or.inl (e5 q hq))
    rw [nI_0] at l7 d1 e1 k1 w1
    rw [hl] at l7
    refine ⟨ckf (rsP R (sT (Wl m wh it a) (W a)) n) (Wl m wh it a) (W a) 0, σ1, σ5, ?_, ?_, gs.tr (f14.tr k2)⟩
    · rw [f_X7_check, h7, cal_some, if_neg (show ¬ (1 : Int32) = 0 by decide), g1, cal_some, f_X0_gathered, w1, cal_some, l7]
    · rw [f_X8_check, h8 σ1 h1.1.1, cal_some, if_neg (show ¬ (1 : Int32) = 0 by decide), c1, cal_some, d1, f_X8_check_43, e1, f_X8_check_73, k1]
  · refine SO.same (r := -1) ?_ ?_
    · rw [f_X7_check, h7, cal_some, if_pos rfl]
    · rw [f_X8_check, h8, cal_some, if_pos rfl]
