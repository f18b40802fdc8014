/-! ===== PURE: walked(), walk(), weight(), price() ===== -/
def PSc (r i k : Nat) : Prop := PN r i k ∨ PW r i k ∨ r = 15 ∨ (85 ≤ r ∧ r ≤ 88)
theorem PSc_pc : ∀ r i k, PPc r i k → ¬ PSc r i k := by
  intro r i k h
  unfold PPc at h
  unfold PSc PN PT PG PO PTw PW
  omega
theorem PSc_as : ∀ r i k, PAs r i k → ¬ PSc r i k := by
  intro r i k h
  unfold PAs at h
  unfold PSc PN PT PG PO PTw PW
  omega
theorem PSc_m : ∀ r k, 40 ≤ r → r < 43 → ¬ PSc r 0 k := by
  intro r k h1 h2
  unfold PSc PN PT PG PO PTw PW
  omega
/-- a call that asks: both sides answer alike, scratch rows aside -/
def SO {β : Type} (σ : SS) (F7 F8 : SS → Option (β × SS)) : Prop := ∃ r σ1 σ2, F7 σ = some (r, σ1) ∧ F8 σ1 = some (r, σ2) ∧ fri PSc σ σ2
theorem SO.same {β : Type} {σ : SS} {F7 F8 : SS → Option (β × SS)} {r : β} (h1 : F7 σ = some (r, σ)) (h2 : F8 σ = some (r, σ)) : SO σ F7 F8 := ⟨r, σ, σ, h1, h2, fri.rf _ _⟩
theorem AS.cw {σ : SS} {an : Nat} {m : Nat → Nat} {wh : Nat → Nat → Bool} {it : Nat → Nat → Nat} {W wv : Nat → Nat} (h : AS σ an m wh it W wv) : ∃ σ' v, f_X8_countWalks σ = some (v, σ') ∧ (∀ a, a < an → σ'.1 85 0 a = nI (W a)) ∧ fri PSc σ σ' := by
  have hn := h.1.1.1
  obtain ⟨σ', v, a1, a2, -, a4⟩ := p_countWalks h.2.1 hn h.mi
  refine ⟨σ', _, a1, fun a ha => ?_, a4.mono (fun r i k z => by unfold PSc; unfold P85 at z; omega)⟩
  rw [a2 a ha, Wc_of h.2.1 hn h.hW a ha]
theorem has_c {σ : SS} {an : Nat} (h : AN σ an) (v : Int32) : (∃ a, a < an ∧ v = nI a ∧ f_X0_has v σ = some (1, σ) ∧ ∀ τ, AN τ an → f_X8_isAssembly v τ = some (1, τ)) ∨ (f_X0_has v σ = some (0, σ) ∧ f_X8_isAssembly v σ = some (0, σ)) := by
  have hn := h.1
  by_cases q : (0 : Int32) ≤ v ∧ v ≤ nI an - 1
  · obtain ⟨a, ha, rfl⟩ := (rng (by omega)).mp q
    exact Or.inl ⟨a, ha, rfl, by rw [p_has h, if_pos q], fun τ hτ => by rw [p_isAssembly hτ, if_pos q]⟩
  · exact Or.inr ⟨by rw [p_has h, if_neg q], by rw [p_isAssembly h, if_neg q]⟩
theorem q_walked {σ : SS} {an : Nat} {m : Nat → Nat} {wh : Nat → Nat → Bool} {it : Nat → Nat → Nat} {W wv : Nat → Nat} (h : AS σ an m wh it W wv) (v : Int32) : SO σ (f_X7_walked v) (f_X8_walked v) := by
  rcases has_c h.1.1 v with ⟨a, ha, rfl, h7, h8⟩ | ⟨h7, h8⟩
  · obtain ⟨r1, r2, r3⟩ := row_at h.1.1 ha
    obtain ⟨σ2, v, c1, c2, c3⟩ := h.cw
    refine ⟨nI (W a), σ, σ2, ?_, ?_, c3⟩
    · rw [f_X7_walked, h7, cal_some, if_neg (show ¬ (1 : Int32) = 0 by decide), chk_p r1, r3, lt_eq, oel_s, (h.2.2 a ha).1.1]
    · rw [f_X8_walked, h8 σ h.1.1, cal_some, if_neg (show ¬ (1 : Int32) = 0 by decide), c1, cal_some, chk_p r1, r2, c2 a ha]
  · refine SO.same (r := -1) ?_ ?_
    · rw [f_X7_walked, h7, cal_some, if_pos rfl]
    · rw [f_X8_walked, h8, cal_some, if_pos rfl]
theorem AN.sc {σ τ : SS} {an : Nat} (h : AN σ an) (f : fri PSc σ τ) : AN τ an := h.fr f ⟨PSc_as _ _ _ (by unfold PAs; omega), PSc_as _ _ _ (by unfold PAs; omega)⟩
theorem PW_Sc {r i k : Nat} (h : PW r i k) : PSc r i k := Or.inr (Or.inl h)
theorem PN_Sc {r i k : Nat} (h : PN r i k) : PSc r i k := Or.inl h
theorem q_walk {σ : SS} {an : Nat} {m : Nat → Nat} {wh : Nat → Nat → Bool} {it : Nat → Nat → Nat} {W wv : Nat → Nat} (h : AS σ an m wh it W wv) (v v2 : Int32) : SO σ (f_X7_walk v v2) (f_X8_walk v v2) := by
  have hn := h.1.1.1
  rcases has_c h.1.1 v with ⟨a, ha, rfl, h7, h8⟩ | ⟨h7, h8⟩
  · obtain ⟨r1, r2, r3⟩ := row_at h.1.1 ha
    have hW := (h.hW a ha).2
    by_cases q : (0 : Int32) ≤ v2
    · obtain ⟨i, hi, rfl⟩ := nI_of (x := v2) (Int32.not_lt.mpr q)
      by_cases z : i < W a
      · obtain ⟨σ1, g1, g2, g3⟩ := p_gather h ha
        have h1 := h.fr g3.p PW_as
        obtain ⟨σ2, vv, c1, c2, c3⟩ := h1.cw
        have h2 := h1.fr c3.p PSc_as
        have hl := Wl_len h.2.1 hn h.hW a ha
        have i5 : inr (nI i) 500 := nI_in (by omega) (by decide)
        have c5 : ix (nI i) = i := nI_clamp (by omega)
        refine ⟨nI (gd (Wl m wh it a) i), σ1, σ2, ?_, ?_, (g3.mono (fun _ _ _ => PW_Sc)).tr c3⟩
        · rw [f_X7_walk, h7, cal_some, if_neg (show ¬ (1 : Int32) = 0 by decide), if_pos q, chk_p r1, r3, lt_eq, oel_s, (h.2.2 a ha).1.1, if_pos (nI_lt z (by omega)), g1, cal_some, g2.1, hl, if_neg (nI_ge z (by omega)), chk_p i5, c5, g2.2 i (by omega)]
        · rw [f_X8_walk, h8 σ1 h1.1.1, cal_some, if_neg (show ¬ (1 : Int32) = 0 by decide), if_pos q, c1, cal_some, chk_p r1, r2, c2 a ha, if_neg (nI_ge z (by omega)), p_walkedAt hn h2.2.1 h2.hW h2.mi c2 ha z, cal_some]
      · obtain ⟨σ2, vv, c1, c2, c3⟩ := h.cw
        refine ⟨-4, σ, σ2, ?_, ?_, c3⟩
        · rw [f_X7_walk, h7, cal_some, if_neg (show ¬ (1 : Int32) = 0 by decide), if_pos q, chk_p r1, r3, lt_eq, oel_s, (h.2.2 a ha).1.1, if_neg (nI_nlt (by omega) hi)]
        · rw [f_X8_walk, h8 σ h.1.1, cal_some, if_neg (show ¬ (1 : Int32) = 0 by decide), if_pos q, c1, cal_some, chk_p r1, r2, c2 a ha, if_pos (nI_le (by omega) hi)]
    · refine SO.same (r := -1) ?_ ?_
      · rw [f_X7_walk, h7, cal_some, if_neg (show ¬ (1 : Int32) = 0 by decide), if_neg q]
      · rw [f_X8_walk, h8 σ h.1.1, cal_some, if_neg (show ¬ (1 : Int32) = 0 by decide), if_neg q]
  · refine SO.same (r := -1) ?_ ?_
    · rw [f_X7_walk, h7, cal_some, if_pos rfl]
    · rw [f_X8_walk, h8, cal_some, if_pos rfl]
/-- all that are walked are there -/
theorem wtl_all {g : Nat → List Nat} {wh : Nat → Nat → Bool} {it : Nat → Nat → Nat} {a : Nat} {P : Nat → Prop} : ∀ {k}, (∀ i, i < k → (wh a i = true → ∀ x, x ∈ g (it a i) → P x) ∧ (wh a i = false → P (it a i))) → ∀ x, x ∈ wtl g wh it a k → P x := by
  intro k
  induction k with
  | zero => intro _ x hx; exact absurd hx (List.not_mem_nil)
  | succ k ih =>
    intro h x hx
    have hx' : x ∈ wtl g wh it a k ++ (if wh a k = true then g (it a k) else [it a k]) := hx
    rcases List.mem_append.mp hx' with y | y
    · exact ih (fun i hi => h i (by omega)) x y
    · cases q : wh a k with
      | true =>
        rw [q, if_pos rfl] at y
        exact (h k (by omega)).1 q x y
      | false =>
        rw [q, if_neg (by decide)] at y
        rw [List.mem_singleton.mp y]
        exact (h k (by omega)).2 q
theorem gd_mem {l : List Nat} {i : Nat} (h : i < l.length) : gd l i ∈ l := by
  have : gd l i = l[i] := by simp [gd, List.getD, h]
  rw [this]
  exact List.getElem_mem h
theorem Wl_in {n : Nat} {ex : Nat → Bool} {an : Nat} {m : Nat → Nat} {wh : Nat → Nat → Bool} {it : Nat → Nat → Nat} {wi : Nat → Nat → Bool} (h : GR an m wh it wi) (hn : an ≤ 12) (hE : AE n ex an m wh it) : ∀ a, a < an → ∀ x, x ∈ Wl m wh it a → x < n ∧ ex x = true := by
  refine h.ind hn (fun a ha ih => ?_)
  rw [Wl_eq h hn ha]
  exact wtl_all (fun i hi => ⟨fun hw => ih i hi hw, fun hw => hE a ha i hi hw⟩)
def wsum (vf : Nat → Int64) (l : List Nat) : Nat → Nat → Int64 → Int64
  | 0, _, acc => acc
  | s + 1, t, acc => wsum vf l s (t + 1) (acc + vf (gd l t))
theorem wt7_loop {σ : SS} {n : Nat} {R : Nat → Nat → Int} {th og : Nat → Nat} {ex : Nat → Bool} {ba : Nat → Int} (hP : PC σ n R th og ex ba) {l : List Nat} (hw : WY σ l) (hl : l.length ≤ 500) (hin : ∀ x, x ∈ l → x < n ∧ ex x = true) : ∀ (s t fuel : Nat) (acc : Int64), t + s = l.length → s < fuel → f_X7_weight_28 fuel acc (nI t) σ = some (wsum (fun p => vol (R p) (th p)) l s t acc, σ) := by
  intro s
  induction s with
  | zero =>
    intro t fuel acc ht hf
    obtain ⟨f, rfl⟩ : ∃ f, fuel = f + 1 := ⟨fuel - 1, by omega⟩
    rw [f_X7_weight_28, hw.1, if_pos (nI_le (by omega) (by omega))]
    rfl
  | succ s ih =>
    intro t fuel acc ht hf
    obtain ⟨f, rfl⟩ : ∃ f, fuel = f + 1 := ⟨fuel - 1, by omega⟩
    have htl : t < l.length := by omega
    have i5 : inr (nI t) 500 := nI_in (by omega) (by decide)
    have c5 : ix (nI t) = t := nI_clamp (by omega)
    obtain ⟨p1, p2⟩ := hin _ (gd_mem htl)
    rcases hP.at p1 with ⟨-, a2, -⟩ | ⟨a1, -⟩
    · rw [f_X7_weight_28, hw.1, if_neg (nI_ge htl (by omega)), chk_p i5, c5, hw.2 t htl, a2, cal_some, oel_s, p_bulk (hP.2.2 _ p1), cal_some, lt_eq, f_X7_weight_72, lt_eq, nI_1]
      exact ih (t + 1) f _ (by omega) (by omega)
    · rw [a1] at p2; exact absurd p2 (by decide)
theorem wt8_loop {n : Nat} {R : Nat → Nat → Int} {th og : Nat → Nat} {ex : Nat → Bool} {ba : Nat → Int} {an : Nat} {m : Nat → Nat} {wh : Nat → Nat → Bool} {it : Nat → Nat → Nat} {W wv : Nat → Nat} {a : Nat} (ha : a < an) (hin : ∀ x, x ∈ Wl m wh it a → x < n ∧ ex x = true) : ∀ (s t fuel : Nat) (acc : Int64) (σ : SS), t + s = W a → s < fuel → MTb σ → PC σ n R th og ex ba → AS σ an m wh it W wv → (∀ b, b < an → σ.1 85 0 b = nI (W b)) → ∃ σ', f_X8_weight_22 fuel (nI a) acc (nI t) σ = some (wsum (fun p => vol (R p) (th p)) (Wl m wh it a) s t acc, σ') ∧ fri PN σ σ' := by
  intro s
  induction s with
  | zero =>
    intro t fuel acc σ ht hf hM hP h hK
    obtain ⟨f, rfl⟩ : ∃ f, fuel = f + 1 := ⟨fuel - 1, by omega⟩
    have hW := (h.hW a ha).2
    obtain ⟨r1, r2, r3⟩ := row_at h.1.1 ha
    rw [f_X8_weight_22, chk_p r1, r2, hK a ha, if_pos (nI_le (by omega) (by omega))]
    exact ⟨σ, rfl, fri.rf _ _⟩
  | succ s ih =>
    intro t fuel acc σ ht hf hM hP h hK
    obtain ⟨f, rfl⟩ : ∃ f, fuel = f + 1 := ⟨fuel - 1, by omega⟩
    have hn := h.1.1.1
    have hW := (h.hW a ha).2
    obtain ⟨r1, r2, r3⟩ := row_at h.1.1 ha
    have hl := Wl_len h.2.1 hn h.hW a ha
    obtain ⟨p1, p2⟩ := hin _ (gd_mem (show t < (Wl m wh it a).length by omega))
    rcases hP.at p1 with ⟨-, -, a3⟩ | ⟨a1, -⟩
    · obtain ⟨σ1, b1, b2⟩ := hP.vol hM p1 a3
      obtain ⟨σ', q1, q2⟩ := ih (t + 1) f (acc + vol (R (gd (Wl m wh it a) t)) (th (gd (Wl m wh it a) t))) σ1 (by omega) (by omega) (hM.fr b2 PN_m) (hP.fr b2 PN_pc) (h.fr b2.p (fun r i k z y => PSc_as r i k z (PN_Sc y))) (fun b hb => by rw [b2.1 85 0 b (by unfold PN PT PG PO PTw; omega)]; exact hK b hb)
      refine ⟨σ', ?_, b2.tr q2⟩
      rw [f_X8_weight_22, chk_p r1, r2, hK a ha, if_neg (nI_ge (by omega) (by omega)), p_walkedAt hn h.2.1 h.hW h.mi hK ha (by omega), cal_some, b1, cal_some, lt_eq, lt_eq, nI_1]
      exact q1
    · rw [a1] at p2; exact absurd p2 (by decide)
theorem q_weight {σ : SS} (hM : MTb σ) {n : Nat} {R : Nat → Nat → Int} {th og : Nat → Nat} {ex : Nat → Bool} {ba : Nat → Int} (hP : PC σ n R th og ex ba) {an : Nat} {m : Nat → Nat} {wh : Nat → Nat → Bool} {it : Nat → Nat → Nat} {W wv : Nat → Nat} (h : AS σ an m wh it W wv) (hE : AE n ex an m wh it) (v : Int32) : SO σ (f_X7_weight v) (f_X8_weight v) := by
  have hn := h.1.1.1
  rcases has_c h.1.1 v with ⟨a, ha, rfl, h7, h8⟩ | ⟨h7, h8⟩
  · have hW := (h.hW a ha).2
    have hl := Wl_len h.2.1 hn h.hW a ha
    have hin := Wl_in h.2.1 hn hE a ha
    obtain ⟨σ1, g1, g2, g3⟩ := p_gather h ha
    have gs : fri PSc σ σ1 := g3.mono (fun _ _ _ => PW_Sc)
    have h1 := h.fr g3.p PW_as
    have hP1 := hP.fr gs PSc_pc
    obtain ⟨σ2, vv, c1, c2, c3⟩ := h1.cw
    have l7 := wt7_loop hP1 g2 (by omega) hin (Wl m wh it a).length 0 FU 0 (by omega) (by show (Wl m wh it a).length < 5000; omega)
    obtain ⟨σ3, d1, d2⟩ := wt8_loop ha hin (R := R) (th := th) (og := og) (ba := ba) (W := W) (wv := wv) (W a) 0 FU 0 σ2 (by omega) (by show W a < 5000; omega) ((hM.fr gs PSc_m).fr c3 PSc_m) (hP1.fr c3 PSc_pc) (h1.fr c3.p PSc_as) c2
    rw [nI_0] at l7 d1
    rw [hl] at l7
    refine ⟨wsum (fun p => vol (R p) (th p)) (Wl m wh it a) (W a) 0 0, σ1, σ3, ?_, ?_, gs.tr (c3.tr (d2.mono (fun _ _ _ => PN_Sc)))⟩
    · rw [f_X7_weight, h7, cal_some, if_neg (show ¬ (1 : Int32) = 0 by decide), g1, cal_some, l7]
    · rw [f_X8_weight, h8 σ1 h1.1.1, cal_some, if_neg (show ¬ (1 : Int32) = 0 by decide), c1, cal_some, d1]
  · refine SO.same (r := -1) ?_ ?_
    · rw [f_X7_weight, h7, cal_some, if_pos rfl]
    · rw [f_X8_weight, h8, cal_some, if_pos rfl]
