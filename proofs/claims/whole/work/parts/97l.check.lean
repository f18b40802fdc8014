/-! ===== PURE: check() ===== -/
def bq (w : Int64) (j : Nat) : Bool := w.toBitVec.getLsbD j
theorem bq_sh : ∀ n, n < 64 → (((nI n).toInt64 &&& 63).toBitVec.smod 64).toNat = n := by decide +kernel
theorem bq_one : ∀ n, n < 64 → ((1 : Int64) <<< ((nI n).toInt64 &&& 63)).toBitVec = BitVec.twoPow 64 n := by decide +kernel
theorem bq_0 (j : Nat) : bq 0 j = false := BitVec.getLsbD_zero
theorem bq_set (w : Int64) {n j : Nat} (hn : n < 64) (hj : j < 64) : bq (w ||| ((1 : Int64) <<< ((nI n).toInt64 &&& 63))) j = (bq w j || decide (n = j)) := by
  unfold bq
  rw [Int64.toBitVec_or, bq_one n hn, BitVec.getLsbD_or, BitVec.getLsbD_twoPow]
  by_cases e : n = j
  · subst e; simp [hj]
  · simp [e]
theorem bq_and1 (b : BitVec 64) : b &&& 1#64 = 0#64 ↔ b.getLsbD 0 = false := by
  constructor
  · intro h
    have t := congrArg (fun x => x.getLsbD 0) h
    simpa using t
  · intro h
    apply BitVec.eq_of_getLsbD_eq
    intro i hi
    cases i with
    | zero => rw [BitVec.getLsbD_and, h, Bool.false_and, BitVec.getLsbD_zero]
    | succ i => simp
theorem bq_test (w : Int64) {n : Nat} (hn : n < 64) : lg_cmp ((w >>> ((nI n).toInt64 &&& 63)) &&& (1 : Int64)) (0 : Int64) = 0 ↔ bq w n = false := by
  have e : (w >>> ((nI n).toInt64 &&& 63)).toBitVec = w.toBitVec.sshiftRight n := by
    rw [Int64.toBitVec_shiftRight]
    show w.toBitVec.sshiftRight (((nI n).toInt64 &&& 63).toBitVec.smod 64).toNat = _
    rw [bq_sh n hn]
  have c : ∀ x : Int64, lg_cmp x 0 = 0 ↔ x = 0 := by
    intro x
    unfold lg_cmp
    by_cases q : x > 0
    · rw [if_pos q]
      exact ⟨fun z => absurd z (by decide), fun z => by subst z; exact absurd q (by decide)⟩
    · rw [if_neg q]
      by_cases z : x = 0
      · rw [if_pos z]; exact ⟨fun _ => z, fun _ => rfl⟩
      · rw [if_neg z]; exact ⟨fun y => absurd y (by decide), fun y => absurd y z⟩
  rw [c, ← Int64.toBitVec_inj, Int64.toBitVec_and, e]
  show w.toBitVec.sshiftRight n &&& 1#64 = 0#64 ↔ _
  rw [bq_and1, BitVec.getLsbD_sshiftRight]
  unfold bq
  simp [hn]
/-- the walk's first t pieces hold q -/
def sT (l : List Nat) : Nat → Nat → Bool
  | 0, _ => false
  | t + 1, q => sT l t q || decide (gd l t = q)
theorem sT_in {l : List Nat} {n : Nat} {ex : Nat → Bool} (hin : ∀ x, x ∈ l → x < n ∧ ex x = true) : ∀ t q, t ≤ l.length → sT l t q = true → q < n ∧ ex q = true := by
  intro t
  induction t with
  | zero => intro q _ h; cases h
  | succ t ih =>
    intro q ht h
    rw [sT, Bool.or_eq_true] at h
    rcases h with h | h
    · exact ih q (by omega) h
    · have e : gd l t = q := of_decide_eq_true h
      have := hin _ (gd_mem (show t < l.length by omega))
      rw [e] at this
      exact this
theorem gth_loop {σ : SS} {l : List Nat} (hw : WY σ l) (hl : l.length ≤ 500) (h60 : ∀ x, x ∈ l → x < 60) : ∀ (s t fuel : Nat) (acc : Int64), t + s = l.length → s < fuel → (∀ q, q < 60 → bq acc q = sT l t q) → ∃ v, f_X0_gathered_4 fuel acc (nI t) σ = some (v, σ) ∧ ∀ q, q < 60 → bq v q = sT l l.length q := by
  intro s
  induction s with
  | zero =>
    intro t fuel acc ht hf ha
    obtain ⟨f, rfl⟩ : ∃ f, fuel = f + 1 := ⟨fuel - 1, by omega⟩
    have e : t = l.length := by omega
    refine ⟨acc, ?_, by rw [← e]; exact ha⟩
    rw [f_X0_gathered_4, hw.1, if_pos (nI_le (by omega) (by omega))]
  | succ s ih =>
    intro t fuel acc ht hf ha
    obtain ⟨f, rfl⟩ : ∃ f, fuel = f + 1 := ⟨fuel - 1, by omega⟩
    have htl : t < l.length := by omega
    have i5 : inr (nI t) 500 := nI_in (by omega) (by decide)
    have c5 : ix (nI t) = t := nI_clamp (by omega)
    have p1 := h60 _ (gd_mem htl)
    obtain ⟨v, v1, v2⟩ := ih (t + 1) f (acc ||| ((1 : Int64) <<< ((nI (gd l t)).toInt64 &&& 63))) (by omega) (by omega) (fun q hq => by rw [bq_set acc (by omega) (by omega), ha q hq, sT])
    refine ⟨v, ?_, v2⟩
    rw [f_X0_gathered_4, hw.1, if_neg (nI_ge htl (by omega)), chk_p i5, c5, hw.2 t htl, lt_eq, lt_eq, nI_1]
    exact v1
/-- what p rests on, among the pieces from t on -/
def rsB (C : Nat → Bool) : Nat → Nat → Bool
  | 0, _ => false
  | s + 1, t => C t || rsB C s (t + 1)
def rsC (R : Nat → Nat → Int) (S : Nat → Bool) (p q : Nat) : Bool := decide (q ≠ p) && (S q && decide (0 < cmn (R p) (R q) 5))
def rsP (R : Nat → Nat → Int) (S : Nat → Bool) (n p : Nat) : Bool := decide (0 ≤ R p 5) || rsB (rsC R S p) n 0
theorem rs7_loop {σ : SS} {n : Nat} {R : Nat → Nat → Int} {th og : Nat → Nat} {ex : Nat → Bool} {ba : Nat → Int} (hP : PC σ n R th og ex ba) {S : Nat → Bool} (hS : ∀ q, S q = true → q < n ∧ ex q = true) {w : Int64} (hw : ∀ q, q < 60 → bq w q = S q) {p : Nat} (hp : p < n) : ∀ (s t fuel : Nat), t + s = n → s < fuel → f_X6_rests_30 fuel (nI p) w (some p) (nI t) σ = some (b01 (rsB (rsC R S p) s t), σ) := by
  have hn := hP.1.1
  intro s
  induction s with
  | zero =>
    intro t fuel ht hf
    obtain ⟨f, rfl⟩ : ∃ f, fuel = f + 1 := ⟨fuel - 1, by omega⟩
    rw [f_X6_rests_30, hP.2.1.1, if_pos (nI_le (by omega) (by omega))]
    rfl
  | succ s ih =>
    intro t fuel ht hf
    obtain ⟨f, rfl⟩ : ∃ f, fuel = f + 1 := ⟨fuel - 1, by omega⟩
    have htn : t < n := by omega
    have i := ih (t + 1) f (by omega) (by omega)
    have skip : rsC R S p t = false → f_X6_rests_88 (f_X6_rests_30 f) (nI p) w (some p) (nI t) σ = some (b01 (rsB (rsC R S p) (s + 1) t), σ) := by
      intro c
      rw [f_X6_rests_88, lt_eq, nI_1, i, rsB, c, Bool.false_or]
    rw [f_X6_rests_30, hP.2.1.1, if_neg (nI_ge htn (by omega))]
    rcases hP.at htn with ⟨-, a2, -⟩ | ⟨a1, a2⟩
    · rw [a2, cal_some, oel_s]
      by_cases q1 : t = p
      · rw [if_pos (by rw [q1])]
        exact skip (by unfold rsC; rw [q1]; simp)
      · rw [if_neg (fun z => q1 ((nI_eq (by omega) (by omega)).mp z))]
        by_cases q2 : S t = true
        · rw [if_neg (fun z => by have := (bq_test w (show t < 64 by omega)).mp z; rw [hw t (by omega), q2] at this; cases this), oel_s]
          obtain ⟨⟨gA, sA⟩, ⟨hA, -⟩, -⟩ := hP.2.2 p hp
          obtain ⟨⟨gB, sB⟩, ⟨hB, -⟩, -⟩ := hP.2.2 t htn
          have mA := good_sm gA sA
          have mB := good_sm gB sB
          have nn := cmn_nn (R p) (R t) 5
          have nb := cmn_b mA mB (show 5 < 8 by decide)
          have hc : iz (cmn (R p) (R t) 5) ≤ 0 ↔ cmn (R p) (R t) 5 ≤ 0 := iz_le (b := 0) ⟨by omega, by omega⟩ ⟨by decide, by decide⟩
          have pc := p_common hA hB mA mB (show 5 < 8 by decide)
          rw [show f_X3_common p (5 : Int32) t σ = some (iz (cmn (R p) (R t) 5), σ) from pc, cal_some]
          by_cases q3 : cmn (R p) (R t) 5 ≤ 0
          · rw [if_pos (hc.mpr q3)]
            exact skip (by unfold rsC; rw [decide_eq_false (show ¬ 0 < cmn (R p) (R t) 5 by omega)]; simp)
          · rw [if_neg (fun z => q3 (hc.mp z)), rsB, show rsC R S p t = true by unfold rsC; rw [decide_eq_true (show 0 < cmn (R p) (R t) 5 by omega), decide_eq_true q1, q2]; rfl]
            rfl
        · have q2' : S t = false := by cases h : S t; rfl; exact absurd h q2
          rw [if_pos ((bq_test w (show t < 64 by omega)).mpr (by rw [hw t (by omega), q2']))]
          exact skip (by unfold rsC; rw [q2']; simp)
    · rw [a2, cal_some]
      show f_X6_rests_88 (f_X6_rests_30 f) (nI p) w (some p) (nI t) σ = _
      refine skip ?_
      unfold rsC
      cases q2 : S t with
      | false => simp
      | true => have := (hS t q2).2; rw [a1] at this; cases this
theorem p_rests7 {σ : SS} {n : Nat} {R : Nat → Nat → Int} {th og : Nat → Nat} {ex : Nat → Bool} {ba : Nat → Int} (hP : PC σ n R th og ex ba) {S : Nat → Bool} (hS : ∀ q, S q = true → q < n ∧ ex q = true) {w : Int64} (hw : ∀ q, q < 60 → bq w q = S q) {p : Nat} (hp : p < n) (he : ex p = true) : f_X6_rests (nI p) w σ = some (b01 (rsP R S n p), σ) := by
  have hn := hP.1.1
  obtain ⟨⟨gA, sA⟩, ⟨hA, -⟩, -⟩ := hP.2.2 p hp
  have mA := good_sm gA sA 5 (by decide)
  obtain ⟨i5, j5⟩ := n8 (show 5 < 8 by decide)
  rcases hP.at hp with ⟨-, a2, -⟩ | ⟨a1, -⟩
  · rw [f_X6_rests, a2, cal_some, oel_s, chk_p (show inr (5 : Int32) 8 from i5), show ix (5 : Int32) = 5 from j5, hA.1 5 (by decide)]
    have hc : iz (R p 5) < 0 ↔ R p 5 < 0 := iz_lt (b := 0) ⟨by omega, by omega⟩ ⟨by decide, by decide⟩
    have l := rs7_loop hP hS hw hp n 0 FU (by omega) (by show n < 5000; omega)
    rw [nI_0] at l
    unfold rsP
    by_cases q : R p 5 < 0
    · rw [if_pos (hc.mpr q), l, decide_eq_false (show ¬ 0 ≤ R p 5 by omega), Bool.false_or]
    · rw [if_neg (fun z => q (hc.mp z)), decide_eq_true (show 0 ≤ R p 5 by omega), Bool.true_or]
      rfl
  · rw [a1] at he; cases he
