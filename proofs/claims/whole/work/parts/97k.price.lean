/-! ===== PURE: price() ===== -/
def cst (R : Nat → Int) (th : Nat) : Int32 := (((3 : Int32) * nI (pl R).length + (2 : Int32) * nI (slN R (pl R).length)) + nI th) + (if 4 ≤ kd R then (10 : Int32) else 0)
theorem p_cost {σ : SS} {p : Nat} {R : Nat → Int} {th og : Nat} {ex : Bool} {ba : Int} (h : PR1 σ p R th og ex ba) : f_X4_cost p σ = some (cst R th, σ) := by
  obtain ⟨-, ⟨hS, -⟩, ⟨-, t1, -⟩, -⟩ := h
  have hk := kd_lt R
  unfold f_X4_cost cst
  rw [p_kind hS, cal_some, (p_family hk σ).1, cal_some]
  have c : nI (6 + kd R / 2) = (8 : Int32) ↔ 6 + kd R / 2 = 8 := nI_eq (b := 8) (by omega) (by decide)
  by_cases q : 4 ≤ kd R
  · rw [if_pos (c.mpr (by omega)), if_pos q, f_X4_cost_21, p_slanted hS, cal_some, t1, hS.2.1]
  · rw [if_neg (fun z => by have := c.mp z; omega), if_neg q, f_X4_cost_21, p_slanted hS, cal_some, t1, hS.2.1]
theorem pr8_in {K : Int32 → Int32 → Int32 → SS → Option (Int32 × SS)} {σ : SS} {R : Nat → Int} (h : SF σ R) {a v3 b : Int32} : ∀ (s t fuel : Nat), t + s = (pl R).length → s < fuel → f_X8_price_78 K fuel a (b + (2 : Int32) * nI (slN R t)) v3 (nI t) σ = K a (b + (2 : Int32) * nI (slN R (pl R).length)) (v3 + 1) σ := by
  have h8 := pl_len R
  intro s
  induction s with
  | zero =>
    intro t fuel ht hf
    obtain ⟨f, rfl⟩ : ∃ f, fuel = f + 1 := ⟨fuel - 1, by omega⟩
    have : t = (pl R).length := by omega
    rw [f_X8_price_78, h.1, if_pos (nI_le (by omega) (by omega)), f_X8_price_114, lt_eq, this]
  | succ s ih =>
    intro t fuel ht hf
    obtain ⟨f, rfl⟩ : ∃ f, fuel = f + 1 := ⟨fuel - 1, by omega⟩
    have htl : t < (pl R).length := by omega
    obtain ⟨g1, g2⟩ := n8 (show t < 8 by omega)
    obtain ⟨a3, -⟩ := h.2 t htl
    have hd := fd_lt htl
    have i := ih (t + 1) f (by omega) (by omega)
    rw [slN_s] at i
    rw [f_X8_price_78, h.1, if_neg (nI_ge htl (by omega)), chk_p g1, g2, a3, rem4 hd]
    by_cases q : 2 ≤ fd R t % 4
    · rw [if_neg (show ¬ nI (fd R t % 4) ≤ (1 : Int32) from nI_ge (a := 1) (by omega) (by omega)), f_X8_price_106, lt_eq, lt_eq, nI_1]
      rw [if_pos q, ← nI_1, Int32.mul_add, Int32.mul_one, ← Int32.add_assoc] at i
      exact i
    · rw [if_pos (show nI (fd R t % 4) ≤ (1 : Int32) from nI_le (b := 1) (by omega) (by decide)), f_X8_price_106, lt_eq, lt_eq, nI_1, Int32.add_zero]
      rw [if_neg q, Nat.add_zero] at i
      exact i
def psum (vf : Nat → Int32) (l : List Nat) : Nat → Nat → Int32 → Int32
  | 0, _, acc => acc
  | s + 1, t, acc => psum vf l s (t + 1) (acc + vf (gd l t))
theorem pr7_loop {σ : SS} {n : Nat} {R : Nat → Nat → Int} {th og : Nat → Nat} {ex : Nat → Bool} {ba : Nat → Int} (hP : PC σ n R th og ex ba) {l : List Nat} (hw : WY σ l) (hl : l.length ≤ 500) (hin : ∀ x, x ∈ l → x < n ∧ ex x = true) : ∀ (s t fuel : Nat) (acc : Int32), t + s = l.length → s < fuel → f_X7_price_25 fuel acc (nI t) σ = some (psum (fun p => cst (R p) (th p)) l s t acc, σ) := by
  intro s
  induction s with
  | zero =>
    intro t fuel acc ht hf
    obtain ⟨f, rfl⟩ : ∃ f, fuel = f + 1 := ⟨fuel - 1, by omega⟩
    rw [f_X7_price_25, hw.1, if_pos (nI_le (by omega) (by omega))]
    rfl
  | succ s ih =>
    intro t fuel acc ht hf
    obtain ⟨f, rfl⟩ : ∃ f, fuel = f + 1 := ⟨fuel - 1, by omega⟩
    have htl : t < l.length := by omega
    have i5 : inr (nI t) 500 := nI_in (by omega) (by decide)
    have c5 : ix (nI t) = t := nI_clamp (by omega)
    obtain ⟨p1, p2⟩ := hin _ (gd_mem htl)
    rcases hP.at p1 with ⟨-, a2, -⟩ | ⟨a1, -⟩
    · rw [f_X7_price_25, hw.1, if_neg (nI_ge htl (by omega)), chk_p i5, c5, hw.2 t htl, a2, cal_some, oel_s, p_cost (hP.2.2 _ p1), cal_some, lt_eq, f_X7_price_67, lt_eq, nI_1]
      exact ih (t + 1) f _ (by omega) (by omega)
    · rw [a1] at p2; exact absurd p2 (by decide)
theorem pr8_loop {n : Nat} {R : Nat → Nat → Int} {th og : Nat → Nat} {ex : Nat → Bool} {ba : Nat → Int} {an : Nat} {m : Nat → Nat} {wh : Nat → Nat → Bool} {it : Nat → Nat → Nat} {W wv : Nat → Nat} {a : Nat} (ha : a < an) (hin : ∀ x, x ∈ Wl m wh it a → x < n ∧ ex x = true) : ∀ (s t fuel : Nat) (acc : Int32) (σ : SS), t + s = W a → s < fuel → MTb σ → PC σ n R th og ex ba → AS σ an m wh it W wv → (∀ b, b < an → σ.1 85 0 b = nI (W b)) → ∃ σ', f_X8_price_19 fuel (nI a) acc (nI t) σ = some (psum (fun p => cst (R p) (th p)) (Wl m wh it a) s t acc, σ') ∧ fri PN σ σ' := by
  intro s
  induction s with
  | zero =>
    intro t fuel acc σ ht hf hM hP h hK
    obtain ⟨f, rfl⟩ : ∃ f, fuel = f + 1 := ⟨fuel - 1, by omega⟩
    have hW := (h.hW a ha).2
    obtain ⟨r1, r2, r3⟩ := row_at h.1.1 ha
    rw [f_X8_price_19, chk_p r1, r2, hK a ha, if_pos (nI_le (by omega) (by omega))]
    exact ⟨σ, rfl, fri.rf _ _⟩
  | succ s ih =>
    intro t fuel acc σ ht hf hM hP h hK
    obtain ⟨f, rfl⟩ : ∃ f, fuel = f + 1 := ⟨fuel - 1, by omega⟩
    have hn := h.1.1.1
    have hW := (h.hW a ha).2
    obtain ⟨r1, r2, r3⟩ := row_at h.1.1 ha
    have hl := Wl_len h.2.1 hn h.hW a ha
    obtain ⟨p1, p2⟩ := hin _ (gd_mem (show t < (Wl m wh it a).length by omega))
    rcases hP.at p1 with ⟨-, -, a3⟩ | ⟨a1, -⟩
    · obtain ⟨σ1, b1, bS, b2⟩ := hP.kindOf hM p1
      obtain ⟨-, -, ⟨-, -, e49⟩, -⟩ := hP.2.2 _ p1
      obtain ⟨n1, n2⟩ := n60 (show gd (Wl m wh it a) t < 60 by have := hP.1.1; omega)
      have hk := kd_lt (R (gd (Wl m wh it a) t))
      obtain ⟨σ', q1, q2⟩ := ih (t + 1) f (acc + cst (R (gd (Wl m wh it a) t)) (th (gd (Wl m wh it a) t))) σ1 (by omega) (by omega) (hM.fr b2 PN_m) (hP.fr b2 PN_pc) (h.fr b2.p (fun r i k z y => PSc_as r i k z (PN_Sc y))) (fun b hb => by rw [b2.1 85 0 b (by unfold PN PT PG PO PTw; omega)]; exact hK b hb)
      refine ⟨σ', ?_, b2.tr q2⟩
      rw [f_X8_price_19, chk_p r1, r2, hK a ha, if_neg (nI_ge (by omega) (by omega)), p_walkedAt hn h.2.1 h.hW h.mi hK ha (by omega), cal_some, b1, cal_some, chk_p n1, n2, b2.1 49 0 _ (PN_pc _ _ _ (by unfold PPc; omega)), e49, bS.1]
      have go : ∀ u : Int32, u = (if 4 ≤ kd (R (gd (Wl m wh it a) t)) then (10 : Int32) else 0) → f_X8_price_72 (f_X8_price_19 f) (nI a) (nI t) acc ((3 : Int32) * nI (pl (R (gd (Wl m wh it a) t))).length + nI (th (gd (Wl m wh it a) t))) u σ1 = some (psum (fun p => cst (R p) (th p)) (Wl m wh it a) (s + 1) t acc, σ') := by
        intro u hu
        have h8 := pl_len (R (gd (Wl m wh it a) t))
        have l := pr8_in (K := f_X8_price_19 f) bS (a := nI a) (v3 := nI t) (b := acc + ((3 : Int32) * nI (pl (R (gd (Wl m wh it a) t))).length + nI (th (gd (Wl m wh it a) t)) + u)) (pl (R (gd (Wl m wh it a) t))).length 0 FU (by omega) (by show _ < 5000; omega)
        rw [show slN (R (gd (Wl m wh it a) t)) 0 = 0 from rfl, nI_0, Int32.mul_zero, Int32.add_zero, nI_1] at l
        rw [f_X8_price_72, lt_eq, l]
        have e : acc + ((3 : Int32) * nI (pl (R (gd (Wl m wh it a) t))).length + nI (th (gd (Wl m wh it a) t)) + u) + (2 : Int32) * nI (slN (R (gd (Wl m wh it a) t)) (pl (R (gd (Wl m wh it a) t))).length) = acc + cst (R (gd (Wl m wh it a) t)) (th (gd (Wl m wh it a) t)) := by
          unfold cst
          rw [← hu]
          ac_rfl
        rw [e]
        exact q1
      by_cases q : 4 ≤ kd (R (gd (Wl m wh it a) t))
      · rw [if_neg (show ¬ nI (kd (R (gd (Wl m wh it a) t))) ≤ (3 : Int32) from nI_ge (a := 3) (by omega) (by omega))]
        exact go 10 (by rw [if_pos q])
      · rw [if_pos (show nI (kd (R (gd (Wl m wh it a) t))) ≤ (3 : Int32) from nI_le (b := 3) (by omega) (by decide))]
        exact go 0 (by rw [if_neg q])
    · rw [a1] at p2; exact absurd p2 (by decide)
theorem q_price {σ : SS} (hM : MTb σ) {n : Nat} {R : Nat → Nat → Int} {th og : Nat → Nat} {ex : Nat → Bool} {ba : Nat → Int} (hP : PC σ n R th og ex ba) {an : Nat} {m : Nat → Nat} {wh : Nat → Nat → Bool} {it : Nat → Nat → Nat} {W wv : Nat → Nat} (h : AS σ an m wh it W wv) (hE : AE n ex an m wh it) (v : Int32) : SO σ (f_X7_price v) (f_X8_price v) := by
  have hn := h.1.1.1
  rcases has_c h.1.1 v with ⟨a, ha, rfl, h7, h8⟩ | ⟨h7, h8⟩
  · have hW := (h.hW a ha).2
    have hl := Wl_len h.2.1 hn h.hW a ha
    have hin := Wl_in h.2.1 hn hE a ha
    obtain ⟨σ1, g1, g2, g3⟩ := p_gather h ha
    have gs : fri PSc σ σ1 := g3.mono (fun _ _ _ => PW_Sc)
    have h1 := h.fr g3.p PW_as
    have hP1 := hP.fr gs PSc_pc
    obtain ⟨σ2, vv, c1, c2, c3⟩ := h1.cw
    have l7 := pr7_loop hP1 g2 (by omega) hin (Wl m wh it a).length 0 FU 0 (by omega) (by show (Wl m wh it a).length < 5000; omega)
    obtain ⟨σ3, d1, d2⟩ := pr8_loop ha hin (R := R) (th := th) (og := og) (ba := ba) (W := W) (wv := wv) (W a) 0 FU 0 σ2 (by omega) (by show W a < 5000; omega) ((hM.fr gs PSc_m).fr c3 PSc_m) (hP1.fr c3 PSc_pc) (h1.fr c3.p PSc_as) c2
    rw [nI_0] at l7 d1
    rw [hl] at l7
    refine ⟨psum (fun p => cst (R p) (th p)) (Wl m wh it a) (W a) 0 0, σ1, σ3, ?_, ?_, gs.tr (c3.tr (d2.mono (fun _ _ _ => PN_Sc)))⟩
    · rw [f_X7_price, h7, cal_some, if_neg (show ¬ (1 : Int32) = 0 by decide), g1, cal_some, l7]
    · rw [f_X8_price, h8 σ1 h1.1.1, cal_some, if_neg (show ¬ (1 : Int32) = 0 by decide), c1, cal_some, d1]
  · refine SO.same (r := -1) ?_ ?_
    · rw [f_X7_price, h7, cal_some, if_pos rfl]
    · rw [f_X8_price, h8, cal_some, if_pos rfl]
