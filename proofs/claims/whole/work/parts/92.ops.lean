/-! ===== PURE: scrap, turn, move ===== -/
theorem H7.fr {P : Nat → Nat → Nat → Prop} {σ τ : SS} {m la : Nat} {so pc nb : Nat → Nat} {Ro : Nat → Nat → Int} (h : H7 σ m la so pc nb Ro) (f : ∀ r i k, ¬ P r i k → τ.1 r i k = σ.1 r i k) (hp : ∀ r k, PH7 r 0 k → ¬ P r 0 k) : H7 τ m la so pc nb Ro := by
  unfold PH7 at hp
  obtain ⟨⟨a1, a2, a3, a4⟩, b⟩ := h
  refine ⟨⟨a1, a2, by rw [f 3 0 3 (hp _ _ (by omega))]; exact a3, by rw [f 3 0 4 (hp _ _ (by omega))]; exact a4⟩, fun j hj => ?_⟩
  obtain ⟨b1, b2, b3⟩ := b j hj
  exact ⟨by rw [f 4 0 _ (hp _ _ (by omega))]; exact b1, by rw [f 5 0 _ (hp _ _ (by omega))]; exact b2, fun z k hk => by rw [f 6 0 _ (hp _ _ (by omega))]; exact b3 z k hk⟩
theorem H8.fr {P : Nat → Nat → Nat → Prop} {σ τ : SS} {m : Nat} {so pc : Nat → Nat} {Ro : Nat → Nat → Int} (h : H8 σ m so pc Ro) (f : ∀ r i k, ¬ P r i k → τ.1 r i k = σ.1 r i k) (hp : ∀ r k, PH8 r 0 k → ¬ P r 0 k) : H8 τ m so pc Ro := by
  unfold PH8 at hp
  obtain ⟨a1, b⟩ := h
  refine ⟨by rw [f 25 0 23 (hp _ _ (by omega))]; exact a1, fun j hj => ?_⟩
  obtain ⟨b1, b2, b3⟩ := b j hj
  exact ⟨by rw [f 64 0 _ (hp _ _ (by omega))]; exact b1, by rw [f 65 0 _ (hp _ _ (by omega))]; exact b2, fun z k hk => by rw [f 66 0 _ (hp _ _ (by omega))]; exact b3 z k hk⟩
/-- pieces and history, both sides -/
def PH (σ : SS) (n : Nat) (R : Nat → Nat → Int) (th og : Nat → Nat) (ex : Nat → Bool) (ba : Nat → Int) : Prop := PC σ n R th og ex ba ∧ ∃ m la so pc nb Ro, H7 σ m la so pc nb Ro ∧ H8 σ m so pc Ro ∧ HV n m so pc nb Ro
/-- all places that calls on pieces may change -/
def PMu (r i k : Nat) : Prop := PPc r i k ∨ PH7 r i k ∨ PH8 r i k ∨ PN r i k
def frp (P : Nat → Nat → Nat → Prop) (σ τ : SS) : Prop := (∀ r i k, ¬ P r i k → τ.1 r i k = σ.1 r i k) ∧ τ.2.2 = σ.2.2
theorem fri.p {P : Nat → Nat → Nat → Prop} {σ τ : SS} (h : fri P σ τ) : frp P σ τ := ⟨h.1, by rw [h.2]⟩
theorem frp.rf (P : Nat → Nat → Nat → Prop) (σ : SS) : frp P σ σ := ⟨fun _ _ _ _ => rfl, rfl⟩
theorem frp.tr {P : Nat → Nat → Nat → Prop} {a b c : SS} (h1 : frp P a b) (h2 : frp P b c) : frp P a c := ⟨fun r i k h => (h2.1 r i k h).trans (h1.1 r i k h), h2.2.trans h1.2⟩
theorem frp.mono {P Q : Nat → Nat → Nat → Prop} {a b : SS} (h1 : frp P a b) (h : ∀ r i k, P r i k → Q r i k) : frp Q a b := ⟨fun r i k q => h1.1 r i k (fun z => q (h r i k z)), h1.2⟩
theorem frp.up {P : Nat → Nat → Nat → Prop} {a b : SS} (h1 : frp P a b) {r i k : Nat} {v : Int32} (hp : P r i k) : frp P a (up b r i k v) := ⟨fun r' i' k' h => by
  rw [← h1.1 r' i' k' h]
  exact if_neg (fun q => h (by rw [q.1, q.2.1, q.2.2]; exact hp)), h1.2⟩
/-- a piece's cells are as they were -/
theorem PR1.cg {σ τ : SS} {p : Nat} {R : Nat → Int} {th og : Nat} {ex : Bool} {ba : Int} (h : PR1 σ p R th og ex ba) (hc : ∀ r k, 16 ≤ r → r ≤ 21 → τ.1 r p k = σ.1 r p k) (hb : ∀ k, k < 8 → τ.1 48 0 (8 * p + k) = σ.1 48 0 (8 * p + k)) (hm : ∀ r, r = 47 ∨ (49 ≤ r ∧ r ≤ 52) → τ.1 r 0 p = σ.1 r 0 p) : PR1 τ p R th og ex ba := by
  obtain ⟨h1, ⟨⟨s1, s2, s3⟩, hB⟩, ⟨h3, h4, h5⟩, ⟨h6, h7, h8⟩, ⟨h9, h10⟩, h11, h12⟩ := h
  refine ⟨h1, ⟨⟨fun k hk => ?_, ?_, fun j hj => ?_⟩, fun k hk => ?_⟩, ⟨h3, ?_, ?_⟩, ⟨h6, ?_, ?_⟩, ⟨?_, ?_⟩, ?_, fun z => ⟨?_, ?_⟩⟩
  · rw [hc 18 k (by omega) (by omega)]; exact s1 k hk
  · rw [hc 17 4 (by omega) (by omega)]; exact s2
  · rw [hc 19 j (by omega) (by omega), hc 20 j (by omega) (by omega), hc 21 j (by omega) (by omega)]; exact s3 j hj
  · rw [hb k hk]; exact hB k hk
  · rw [hc 16 1 (by omega) (by omega)]; exact h4
  · rw [hm 49 (by omega)]; exact h5
  · rw [hc 16 2 (by omega) (by omega)]; exact h7
  · rw [hm 50 (by omega)]; exact h8
  · rw [hc 16 4 (by omega) (by omega)]; exact h9
  · rw [hm 47 (by omega)]; exact h10
  · rw [hm 51 (by omega)]; exact h11
  · rw [hc 16 3 (by omega) (by omega)]; exact (h12 z).1
  · rw [hm 52 (by omega)]; exact (h12 z).2
theorem p_isPiece {σ : SS} {n p : Nat} (h25 : σ.1 25 0 6 = nI n) (hn : n ≤ 60) (hp : p < n) {ex : Bool} (h47 : σ.1 47 0 p = b01 ex) : f_X8_isPiece (nI p) σ = some (b01 ex, σ) := by
  obtain ⟨g1, g2⟩ := n60 (show p < 60 by omega)
  unfold f_X8_isPiece
  rw [h25, c64_0, p_in, cal_some, if_pos ((rng (by omega)).mpr ⟨p, hp, rfl⟩), if_neg (by decide), chk_p g1, g2, h47]
  cases ex <;> rfl
theorem p_isPiece_out {σ τ : SS} {v : Int32} (h : f_X8_isPiece v σ = some (0, σ)) (e1 : τ.1 25 0 6 = σ.1 25 0 6) (e2 : ∀ k, τ.1 47 0 k = σ.1 47 0 k) : f_X8_isPiece v τ = some (0, τ) := by
  unfold f_X8_isPiece at h ⊢
  rw [e1, c64_0, p_in, cal_some, e2]
  rw [c64_0, p_in, cal_some] at h
  by_cases q : (0 : Int32) ≤ v ∧ v ≤ σ.1 25 0 6 - 1
  · rw [if_pos q, if_neg (show ¬ (1 : Int32) = 0 by decide)] at h ⊢
    unfold chk at h ⊢
    by_cases q2 : inr v 60
    · rw [if_pos q2] at h ⊢
      by_cases q3 : σ.1 47 0 (ix v) = 0
      · rw [if_pos q3]
      · rw [if_neg q3] at h
        injection h with h
        injection h with h1
        exact absurd h1 (by decide)
    · rw [if_neg q2] at h
      cases h
  · rw [if_neg q, if_pos rfl]
/-- a call that may change pieces: both sides answer alike, the ties hold again; who stood in an assembly is still there -/
def MU (σ : SS) (hd : Nat → Prop) (n : Nat) (ex : Nat → Bool) (F7 F8 : SS → Option (Int32 × SS)) : Prop := ∃ r σ1 σ2, F7 σ = some (r, σ1) ∧ F8 σ1 = some (r, σ2) ∧ frp PMu σ σ2 ∧ ∃ n' R th og ex' ba, PH σ2 n' R th og ex' ba ∧ ∀ p, p < n → ex p = true → hd p → p < n' ∧ ex' p = true
theorem MU.same {σ : SS} {hd : Nat → Prop} {n : Nat} {R : Nat → Nat → Int} {th og : Nat → Nat} {ex : Nat → Bool} {ba : Nat → Int} (h : PH σ n R th og ex ba) {F7 F8 : SS → Option (Int32 × SS)} {r : Int32} (h1 : F7 σ = some (r, σ)) (h2 : F8 σ = some (r, σ)) : MU σ hd n ex F7 F8 := ⟨r, σ, σ, h1, h2, frp.rf _ _, n, R, th, og, ex, ba, h, fun _ a b _ => ⟨a, b⟩⟩
/-! turned shapes -/
theorem sw_fit {e R : Nat → Int} (h : Fit e R) : ∀ w, w < 3 → Fit (fun k => e (trn w k)) (swR w R) := by
  obtain ⟨a, ww, b, d⟩ := h
  have a := of8 a
  have b := of8 b
  have d := of8 d
  simp only [ld] at a d
  obtain ⟨a0, a1, a2, a3, a4, a5, a6, a7⟩ := a
  obtain ⟨b0, b1, b2, b3, b4, b5, b6, b7⟩ := b
  obtain ⟨d0, d1, d2, d3, d4, d5, d6, d7⟩ := d
  intro w hw
  have hc : w = 0 ∨ w = 1 ∨ w = 2 := by omega
  rcases hc with rfl | rfl | rfl
  all_goals
    refine ⟨?_, ?_, ?_, ?_⟩
    · apply all8 <;> simp only [ld, swR, trn] <;> omega
    · simp only [swR, trn]
      omega
    · apply all8 <;> simp only [swR, trn] <;> omega
    · apply all8 <;> simp only [ld, swR, trn] <;> omega
theorem sw_good {R : Nat → Int} (h : Good R) {w : Nat} (hw : w < 3) : Good (swR w R) := fit_cg (sw_fit h w hw) (fun _ _ => rfl)
/-- where direction k's bound goes -/
def pmw (w k : Nat) : Nat := match w with
  | 0 => (match k with
    | 0 => 1
    | 1 => 4
    | 2 => 7
    | 3 => 2
    | 4 => 5
    | 5 => 0
    | 6 => 3
    | _ => 6)
  | 1 => (match k with
    | 0 => 4
    | 1 => 1
    | 2 => 7
    | 3 => 6
    | 4 => 0
    | 5 => 5
    | 6 => 3
    | _ => 2)
  | _ => (match k with
    | 0 => 1
    | 1 => 0
    | 2 => 2
    | 3 => 7
    | 4 => 5
    | 5 => 4
    | 6 => 6
    | _ => 3)
theorem pmw_f : ∀ w, w < 3 → ∀ k, k < 8 → pmw w k < 8 ∧ trn w (pmw w k) = k ∧ pmw w (trn w k) = k := by decide
/-- the model's tables of turns -/
def MT2 (σ : SS) : Prop := ∀ k, k < 8 → σ.1 43 0 k = nI (pmw 0 k) ∧ σ.1 44 0 k = nI (pmw 1 k) ∧ σ.1 45 0 k = nI (pmw 2 k)
theorem t30_loop {p w : Nat} (hp : p < 60) {E : Nat → Int} : ∀ (s t fuel : Nat) (σ : SS), t + s = 8 → s < fuel → BD σ p E → (∀ k, k < t → σ.1 53 0 k = iz (E k)) → ∃ σ', f_X8_turn_30 fuel (nI p) (nI w) (nI t) σ = f_X8_turn_59 (nI p) (nI w) σ' ∧ (∀ k, k < 8 → σ'.1 53 0 k = iz (E k)) ∧ fri P53 σ σ' := by
  intro s
  induction s with
  | zero =>
    intro t fuel σ ht hf hB hb
    obtain ⟨f, rfl⟩ : ∃ f, fuel = f + 1 := ⟨fuel - 1, by omega⟩
    have : t = 8 := by omega
    subst this
    rw [f_X8_turn_30, if_pos (by decide)]
    exact ⟨σ, rfl, hb, fri.rf _ _⟩
  | succ s ih =>
    intro t fuel σ ht hf hB hb
    obtain ⟨f, rfl⟩ : ∃ f, fuel = f + 1 := ⟨fuel - 1, by omega⟩
    have h8 : t < 8 := by omega
    obtain ⟨n1, n2, n3⟩ := n480 hp h8
    obtain ⟨g1, g2⟩ := n8 h8
    have f1 : fri P53 σ (up σ 53 0 t (iz (E t))) := fri.up (fri.rf _ _) rfl
    rw [f_X8_turn_30, if_neg (le8 h8), n1, chk_p n2, chk_p g1, n3, g2, hB t h8, lt_eq, lt_eq, nI_1]
    obtain ⟨σ', q1, q2, q3⟩ := ih (t + 1) f (up σ 53 0 t (iz (E t))) (by omega) (by omega) (fun k hk => by rw [f1.1 48 0 _ (by unfold P53; omega)]; exact hB k hk) (fun k hk => by
      by_cases q : k = t
      · rw [q]
        simp only [up_rd, and_self, if_true]
      · rw [up_rd, if_neg (by omega)]
        exact hb k (by omega))
    exact ⟨σ', q1, q2, f1.tr q3⟩
theorem t61_loop {p w : Nat} (hp : p < 60) (hw : w < 3) {E : Nat → Int} : ∀ (s t fuel : Nat) (σ : SS), t + s = 8 → s < fuel → MT2 σ → (∀ k, k < 8 → σ.1 53 0 k = iz (E k)) → (∀ k, k < t → σ.1 48 0 (8 * p + pmw w k) = iz (E k)) → ∃ σ', f_X8_turn_61 fuel (nI p) (nI w) (nI t) σ = some (1, σ') ∧ (∀ k, k < 8 → σ'.1 48 0 (8 * p + pmw w k) = iz (E k)) ∧ fri (PBd p) σ σ' := by
  intro s
  induction s with
  | zero =>
    intro t fuel σ ht hf hM he hb
    obtain ⟨f, rfl⟩ : ∃ f, fuel = f + 1 := ⟨fuel - 1, by omega⟩
    have : t = 8 := by omega
    subst this
    rw [f_X8_turn_61, if_pos (by decide)]
    exact ⟨σ, rfl, hb, fri.rf _ _⟩
  | succ s ih =>
    intro t fuel σ ht hf hM he hb
    obtain ⟨f, rfl⟩ : ∃ f, fuel = f + 1 := ⟨fuel - 1, by omega⟩
    have h8 : t < 8 := by omega
    obtain ⟨g1, g2⟩ := n8 h8
    obtain ⟨w1, w2, w3⟩ := pmw_f w hw t h8
    obtain ⟨n1, n2, n3⟩ := n480 hp w1
    have e108 : f_X8_turn_108 (f_X8_turn_61 f) (nI p) (nI w) (nI t) ((8 : Int32) * nI p) (nI (pmw w t)) σ = f_X8_turn_61 f (nI p) (nI w) (nI (t + 1)) (up σ 48 0 (8 * p + pmw w t) (iz (E t))) := by
      rw [f_X8_turn_108, chk_p g1, n1, chk_p n2, n3, g2, he t h8, lt_eq, lt_eq, nI_1]
    have run : f_X8_turn_61 (f + 1) (nI p) (nI w) (nI t) σ = f_X8_turn_61 f (nI p) (nI w) (nI (t + 1)) (up σ 48 0 (8 * p + pmw w t) (iz (E t))) := by
      rw [f_X8_turn_61, if_neg (le8 h8), ← e108]
      have hc : w = 0 ∨ w = 1 ∨ w = 2 := by omega
      rcases hc with rfl | rfl | rfl
      · rw [if_pos (by decide), chk_p g1, g2, (hM t h8).1]
      · rw [if_neg (by decide), if_pos (by decide), chk_p g1, g2, (hM t h8).2.1]
      · rw [if_neg (by decide), if_neg (by decide), chk_p g1, g2, (hM t h8).2.2]
    rw [run]
    have f1 : fri (PBd p) σ (up σ 48 0 (8 * p + pmw w t) (iz (E t))) := fri.up (fri.rf _ _) (by unfold PBd; omega)
    obtain ⟨σ', q1, q2, q3⟩ := ih (t + 1) f (up σ 48 0 (8 * p + pmw w t) (iz (E t))) (by omega) (by omega) (fun k hk => by rw [f1.1 43 0 _ (by unfold PBd; omega), f1.1 44 0 _ (by unfold PBd; omega), f1.1 45 0 _ (by unfold PBd; omega)]; exact hM k hk) (fun k hk => by rw [f1.1 53 0 _ (by unfold PBd; omega)]; exact he k hk) (fun k hk => by
      by_cases q : k = t
      · rw [q]
        simp only [up_rd, and_self, if_true]
      · have ne : pmw w k ≠ pmw w t := by
          intro z
          have z1 := (pmw_f w hw k (by omega)).2.1
          rw [z, w2] at z1
          exact q z1.symm
        rw [up_rd, if_neg (by omega)]
        exact hb k (by omega))
    exact ⟨σ', q1, q2, f1.tr q3⟩
