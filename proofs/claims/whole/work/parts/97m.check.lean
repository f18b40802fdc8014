/-! ===== PURE: check(), the model's side ===== -/
theorem rs8_loop {n : Nat} {R : Nat → Nat → Int} {th og : Nat → Nat} {ex : Nat → Bool} {ba : Nat → Int} {S : Nat → Bool} {p : Nat} (hp : p < n) : ∀ (s t fuel : Nat) (σ : SS), t + s = n → s + 1 < fuel → MTb σ → PC σ n R th og ex ba → (∀ q, q < 60 → σ.1 87 0 q = b01 (S q)) → ∃ σ', f_X8_rests_22 fuel (nI p) 0 (nI t) σ = some (b01 (rsB (rsC R S p) s t), σ') ∧ fri PN σ σ' := by
  intro s
  induction s with
  | zero =>
    intro t fuel σ ht hf hM hP h87
    have hn := hP.1.1
    obtain ⟨f, rfl⟩ : ∃ f, fuel = f + 1 := ⟨fuel - 1, by omega⟩
    refine ⟨σ, ?_, fri.rf _ _⟩
    rw [f_X8_rests_22, hP.2.1.2.1, if_pos (nI_le (by omega) (by omega)), chk_p (Or.inl rfl)]
    rfl
  | succ s ih =>
    intro t fuel σ ht hf hM hP h87
    have hn := hP.1.1
    obtain ⟨f, rfl⟩ : ∃ f, fuel = f + 1 := ⟨fuel - 1, by omega⟩
    have htn : t < n := by omega
    obtain ⟨g1, g2⟩ := n60 (show t < 60 by omega)
    have skip : ∀ τ, fri PN σ τ → rsC R S p t = false → ∃ σ', f_X8_rests_61 (f_X8_rests_22 f) (nI p) (nI t) τ = some (b01 (rsB (rsC R S p) (s + 1) t), σ') ∧ fri PN σ σ' := by
      intro τ fτ c
      obtain ⟨σ', i1, i2⟩ := ih (t + 1) f τ (by omega) (by omega) (hM.fr fτ PN_m) (hP.fr fτ PN_pc) (fun q hq => by rw [fτ.1 87 0 q (by unfold PN PT PG PO PTw; omega)]; exact h87 q hq)
      refine ⟨σ', ?_, fτ.tr i2⟩
      rw [f_X8_rests_61, f_X8_rests_62, lt_eq, nI_1, i1, rsB, c, Bool.false_or]
    rw [f_X8_rests_22, hP.2.1.2.1, if_neg (nI_ge htn (by omega)), if_pos rfl, chk_p g1, g2, h87 t (by omega)]
    cases q2 : S t with
    | false =>
      rw [if_pos (show b01 false = 0 from rfl)]
      exact skip σ (fri.rf _ _) (by unfold rsC; rw [q2]; simp)
    | true =>
      rw [if_neg (show ¬ b01 true = 0 by decide)]
      by_cases q1 : t = p
      · rw [if_pos (by rw [q1])]
        exact skip σ (fri.rf _ _) (by unfold rsC; rw [q1]; simp)
      · rw [if_neg (fun z => q1 ((nI_eq (by omega) (by omega)).mp z))]
        obtain ⟨⟨gA, sA⟩, ⟨-, bA⟩, -⟩ := hP.2.2 p hp
        obtain ⟨⟨gB, sB⟩, ⟨-, bB⟩, -⟩ := hP.2.2 t htn
        obtain ⟨σ1, r1, r2⟩ := p_restsOn hM (show p < 60 by omega) (show t < 60 by omega) gA gB sA sB bA bB
        rw [r1, cal_some]
        by_cases q3 : 0 < cmn (R p) (R t) 5
        · rw [if_pos q3, if_neg (show ¬ (1 : Int32) = 0 by decide), f_X8_rests_62, lt_eq, nI_1]
          have c : rsC R S p t = true := by unfold rsC; rw [decide_eq_true q3, decide_eq_true q1, q2]; rfl
          refine ⟨σ1, ?_, r2⟩
          obtain ⟨f', rfl⟩ : ∃ f', f = f' + 1 := ⟨f - 1, by omega⟩
          rw [f_X8_rests_22, if_neg (show ¬ (1 : Int32) = 0 by decide), chk_p (Or.inr rfl), ite_self, rsB, c, Bool.true_or]
          rfl
        · rw [if_neg q3, if_pos rfl]
          exact skip σ1 r2 (by unfold rsC; rw [decide_eq_false q3]; simp)
theorem p_rests8 {σ : SS} (hM : MTb σ) {n : Nat} {R : Nat → Nat → Int} {th og : Nat → Nat} {ex : Nat → Bool} {ba : Nat → Int} (hP : PC σ n R th og ex ba) {S : Nat → Bool} (h87 : ∀ q, q < 60 → σ.1 87 0 q = b01 (S q)) {p : Nat} (hp : p < n) : ∃ σ', f_X8_rests (nI p) σ = some (b01 (rsP R S n p), σ') ∧ fri PN σ σ' := by
  have hn := hP.1.1
  obtain ⟨⟨g, s⟩, ⟨-, hB⟩, -⟩ := hP.2.2 p hp
  have mA := good_sm g s 5 (by decide)
  obtain ⟨σ2, ps, t3, -, t4, t5, -, t6⟩ := p_takes g hM (show p < 60 by omega) hB (ez_b' g s)
  have f2 : fri PN σ σ2 := t6.mono (fun _ _ _ => PN_of_PT)
  have hm := p_most g (hM.fr f2 PN_m) t4 t5 (show 5 < 8 by decide)
  rw [f_X8_rests, t3, cal_some, show f_X8_most (5 : Int32) σ2 = some (iz (R p 5), σ2) from hm, cal_some, iz_neg]
  have hc : 0 < iz (-(R p 5)) ↔ 0 < -(R p 5) := iz_lt (a := 0) ⟨by decide, by decide⟩ ⟨by omega, by omega⟩
  obtain ⟨σ', l1, l2⟩ := rs8_loop hp (R := R) (th := th) (og := og) (ex := ex) (ba := ba) (S := S) n 0 FU σ2 (by omega) (by show n + 1 < 5000; omega) (hM.fr f2 PN_m) (hP.fr f2 PN_pc) (fun q hq => by rw [f2.1 87 0 q (by unfold PN PT PG PO PTw; omega)]; exact h87 q hq)
  rw [nI_0] at l1
  unfold rsP
  by_cases q : R p 5 < 0
  · refine ⟨σ', ?_, f2.tr l2⟩
    rw [if_pos (hc.mpr (by omega)), f_X8_rests_19, l1, decide_eq_false (show ¬ 0 ≤ R p 5 by omega), Bool.false_or]
  · refine ⟨σ2, ?_, f2⟩
    rw [if_neg (fun z => by have := hc.mp z; omega), f_X8_rests_19, decide_eq_true (show 0 ≤ R p 5 by omega), Bool.true_or]
    show f_X8_rests_22 (4999 + 1) (nI p) 1 0 σ2 = some (b01 true, σ2)
    rw [f_X8_rests_22, if_neg (show ¬ (1 : Int32) = 0 by decide), chk_p (Or.inr rfl), ite_self]
    rfl
/-- the first of the walk that does not rest -/
def ckf (B : Nat → Bool) (l : List Nat) : Nat → Nat → Int32
  | 0, _ => -4
  | s + 1, t => if B (gd l t) = true then ckf B l s (t + 1) else nI (gd l t)
theorem ck7_loop {σ : SS} {n : Nat} {R : Nat → Nat → Int} {th og : Nat → Nat} {ex : Nat → Bool} {ba : Nat → Int} (hP : PC σ n R th og ex ba) {S : Nat → Bool} (hS : ∀ q, S q = true → q < n ∧ ex q = true) {w : Int64} (hw : ∀ q, q < 60 → bq w q = S q) {l : List Nat} (hy : WY σ l) (hl : l.length ≤ 500) (hin : ∀ x, x ∈ l → x < n ∧ ex x = true) : ∀ (s t fuel : Nat) (v : Int64), t + s = l.length → s < fuel → (∀ q, q < 60 → bq v q = true → rsP R S n q = true) → f_X7_check_35 fuel w v (nI t) σ = some (ckf (rsP R S n) l s t, σ) := by
  have hn := hP.1.1
  intro s
  induction s with
  | zero =>
    intro t fuel v ht hf hv
    obtain ⟨f, rfl⟩ : ∃ f, fuel = f + 1 := ⟨fuel - 1, by omega⟩
    rw [f_X7_check_35, hy.1, if_pos (nI_le (by omega) (by omega))]
    rfl
  | succ s ih =>
    intro t fuel v ht hf hv
    obtain ⟨f, rfl⟩ : ∃ f, fuel = f + 1 := ⟨fuel - 1, by omega⟩
    have htl : t < l.length := by omega
    have i5 : inr (nI t) 500 := nI_in (by omega) (by decide)
    have c5 : ix (nI t) = t := nI_clamp (by omega)
    obtain ⟨p1, p2⟩ := hin _ (gd_mem htl)
    rw [f_X7_check_35, hy.1, if_neg (nI_ge htl (by omega)), chk_p i5, c5, hy.2 t htl, lt_eq]
    by_cases q : bq v (gd l t) = true
    · have hr := hv _ (by omega) q
      rw [if_neg (fun z => by have := (bq_test v (show gd l t < 64 by omega)).mp z; rw [q] at this; cases this), f_X7_check_96, lt_eq, nI_1, ckf, if_pos hr]
      exact ih (t + 1) f v (by omega) (by omega) hv
    · have q' : bq v (gd l t) = false := by cases h : bq v (gd l t); rfl; exact absurd h q
      rw [if_pos ((bq_test v (show gd l t < 64 by omega)).mpr q'), p_rests7 hP hS hw p1 p2, cal_some, ckf]
      by_cases hr : rsP R S n (gd l t) = true
      · rw [if_pos hr, hr, if_neg (show ¬ b01 true = 0 by decide), lt_eq, f_X7_check_96, lt_eq, nI_1]
        refine ih (t + 1) f _ (by omega) (by omega) (fun q hq hb => ?_)
        rw [bq_set v (by omega) (by omega), Bool.or_eq_true] at hb
        rcases hb with hb | hb
        · exact hv q hq hb
        · have e : gd l t = q := of_decide_eq_true hb
          rw [← e]; exact hr
      · have hr' : rsP R S n (gd l t) = false := by cases h : rsP R S n (gd l t); rfl; exact absurd h hr
        rw [if_neg hr, hr', if_pos (show b01 false = 0 from rfl)]
