/-! ===== PURE: undo(), count() ===== -/
theorem u82 {σ : SS} {m la : Nat} (hm : m < 8) (hl : la < 8) (e3 : σ.1 3 0 3 = nI la) (e4 : σ.1 3 0 4 = nI (m + 1)) : f_X7_undo_82 σ = some (nI m, up (up σ 3 0 3 (nI ((la + 7) % 8))) 3 0 4 (nI m)) := by
  have r4 : (up σ 3 0 3 (nI ((la + 7) % 8))).1 3 0 4 = nI (m + 1) := by
    rw [up_rd, if_neg (by omega)]; exact e4
  have r5 : (up (up σ 3 0 3 (nI ((la + 7) % 8))) 3 0 4 (nI m)).1 3 0 4 = nI m := by
    simp only [up_rd, and_self, if_true]
  rw [f_X7_undo_82, f_X2_dropLatest, e3, (settle_ix la hl).1, lt_eq, r4, lt_eq, nI_pred, if_neg (nI_pos (by omega)), cal_some, r5]
/-- the latest entry taken off the class's ring -/
theorem H7.drop {σ τ : SS} {m la : Nat} {so pc nb : Nat → Nat} {Ro : Nat → Nat → Int} (h : H7 σ (m + 1) la so pc nb Ro) (f : ∀ r k, r = 4 ∨ r = 5 ∨ r = 6 → τ.1 r 0 k = σ.1 r 0 k) (e3 : τ.1 3 0 3 = nI ((la + 7) % 8)) (e4 : τ.1 3 0 4 = nI m) : H7 τ m ((la + 7) % 8) so pc nb Ro := by
  obtain ⟨⟨a1, a2, -, -⟩, b⟩ := h
  refine ⟨⟨by omega, Nat.mod_lt _ (by decide), e3, e4⟩, fun j hj => ?_⟩
  have eq : rq m ((la + 7) % 8) j = rq (m + 1) la j := by unfold rq; omega
  obtain ⟨b1, b2, b3⟩ := b j (by omega)
  rw [eq, f 4 _ (by omega), f 5 _ (by omega)]
  exact ⟨b1, b2, fun z k hk => by rw [f 6 _ (by omega)]; exact b3 z k hk⟩
theorem u47_none {σ : SS} {x : Int32} {la : Nat} (hl : la < 8) (e3 : σ.1 3 0 3 = nI la) (ex : σ.1 4 0 la = x) (hf : f_X6_findEvenScrapped x σ = some (none, σ)) : f_X7_undo_47 σ = f_X7_undo_82 σ := by
  obtain ⟨g1, g2⟩ := n8 hl
  rw [f_X7_undo_47, f_X2_latestChanged, e3, chk_p g1, g2, ex, cal_some, hf, cal_some, oel_n]
theorem u47_some {σ σ' : SS} {x : Int32} {la p : Nat} (hl : la < 8) (e3 : σ.1 3 0 3 = nI la) (ex : σ.1 4 0 la = x) (hf : f_X6_findEvenScrapped x σ = some (some p, σ)) (hg : f_X3_becomeReach p (nI (8 * la)) (up σ 16 p 4 1) = some ((), σ')) : f_X7_undo_47 σ = f_X7_undo_82 σ' := by
  obtain ⟨g1, g2⟩ := n8 hl
  have e8 : nI la * (8 : Int32) = nI (8 * la) := by
    show nI la * nI 8 = _
    rw [pk_mul, Nat.mul_comm]
  have e3' : (up σ 16 p 4 1).1 3 0 3 = nI la := by rw [up_rd, if_neg (by omega)]; exact e3
  rw [f_X7_undo_47, f_X2_latestChanged, e3, chk_p g1, g2, ex, cal_some, hf, cal_some, oel_s, lt_eq, f_X2_giveBack, e3', e8, hg, cal_some, cal_some]
/-- back to one piece fewer -/
theorem p_takeBack {σ : SS} {n : Nat} {R : Nat → Nat → Int} {th og : Nat → Nat} {ex : Nat → Bool} {ba : Nat → Int} (h : PC σ (n + 1) R th og ex ba) : ∃ σ', f_X6_takeBackLatest σ = some ((), σ') ∧ σ'.1 1 0 1 = nI n ∧ σ'.1 1 0 2 = nI (blk og n) ∧ fri (fun r i k => r = 1 ∧ (k = 1 ∨ k = 2)) σ σ' := by
  have hn := h.1.1
  obtain ⟨-, -, -, ⟨ol, o1, -⟩, -⟩ := h.2.2 n (by omega)
  have hfes : f_X6_findEvenScrapped (nI n) σ = some (some n, σ) := by
    rcases p_fes h.2.1.1 h.1.1 h.1.2.1 (nI n) with ⟨p, p1, p2, p3⟩ | ⟨q, -⟩
    · have : n = p := (nI_eq (by omega) (by omega)).mp p2
      rw [this] at p3 ⊢
      exact p3
    · exact absurd ⟨n, by omega, rfl⟩ q
  have hc : nI (og n) = nI n ↔ og n = n := nI_eq (by omega) (by omega)
  have e30 : ∀ σ0 : SS, σ0.1 1 0 1 = nI (n + 1) → f_X6_takeBackLatest_30 σ0 = some ((), up σ0 1 0 1 (nI n)) := by
    intro σ0 e
    rw [f_X6_takeBackLatest_30, e, nI_pred, lt_eq]
  have eb : blk og (n + 1) = blk og n + (if og n = n then 1 else 0) := rfl
  rw [f_X6_takeBackLatest, h.2.1.1, if_neg (show ¬ nI (n + 1) ≤ (0 : Int32) from nI_nle (by omega) (by omega)), nI_pred, f_X6_cameAsBlock, hfes, cal_some, oel_s, o1]
  by_cases q : og n = n
  · rw [if_pos q] at eb
    rw [if_pos (hc.mpr q), cal_some, if_neg (show ¬ (1 : Int32) = 0 by decide), lt_eq, h.2.1.2.2, eb, nI_pred, e30 _ (by rw [up_rd, if_neg (by omega)]; exact h.2.1.1)]
    refine ⟨_, rfl, by simp only [up_rd, and_self, if_true], ?_, fri.up (fri.up (fri.rf _ _) (by omega)) (by omega)⟩
    rw [up_rd, if_neg (by omega)]
    simp only [up_rd, and_self, if_true]
  · rw [if_neg q, Nat.add_zero] at eb
    rw [if_neg (fun z => q (hc.mp z)), cal_some, if_pos rfl, e30 _ h.2.1.1]
    refine ⟨_, rfl, by simp only [up_rd, and_self, if_true], ?_, fri.up (fri.rf _ _) (by omega)⟩
    rw [up_rd, if_neg (by omega), h.2.1.2.2]
    exact congrArg nI (by omega)
theorem u112_loop {m p : Nat} (hm : m < 8) (hp : p < 60) {E : Nat → Int} : ∀ (s t fuel : Nat) (σ : SS), t + s = 8 → s < fuel → σ.1 25 0 23 = nI m → (∀ k, k < 8 → σ.1 66 0 (8 * m + k) = iz (E k)) → (∀ k, k < t → σ.1 48 0 (8 * p + k) = iz (E k)) → ∃ σ', f_X8_undo_112 fuel (nI p) (nI t) σ = some (nI m, σ') ∧ BD σ' p E ∧ fri (PBd p) σ σ' := by
  intro s
  induction s with
  | zero =>
    intro t fuel σ ht hf h23 h66 h48
    obtain ⟨f, rfl⟩ : ∃ f, fuel = f + 1 := ⟨fuel - 1, by omega⟩
    have : t = 8 := by omega
    subst this
    rw [f_X8_undo_112, if_pos (by decide), h23]
    exact ⟨σ, rfl, h48, fri.rf _ _⟩
  | succ s ih =>
    intro t fuel σ ht hf h23 h66 h48
    obtain ⟨f, rfl⟩ : ∃ f, fuel = f + 1 := ⟨fuel - 1, by omega⟩
    have h8 : t < 8 := by omega
    obtain ⟨n1, n2, n3⟩ := n480 hp h8
    have e64 : (8 : Int32) * nI m + nI t = nI (8 * m + t) := by
      show nI 8 * nI m + nI t = _
      rw [pk_mul, nI_add]
    have g1 : inr (nI (8 * m + t)) 64 := nI_in (by omega) (by decide)
    have g2 : ix (nI (8 * m + t)) = 8 * m + t := nI_clamp (by omega)
    have f1 : fri (PBd p) σ (up σ 48 0 (8 * p + t) (iz (E t))) := fri.up (fri.rf _ _) (by unfold PBd; omega)
    obtain ⟨σ', q1, q2, q3⟩ := ih (t + 1) f (up σ 48 0 (8 * p + t) (iz (E t))) (by omega) (by omega) (by rw [up_rd, if_neg (by omega)]; exact h23) (fun k hk => by rw [up_rd, if_neg (by omega)]; exact h66 k hk) (fun k hk => by
      by_cases q : k = t
      · rw [q]
        simp only [up_rd, and_self, if_true]
      · rw [up_rd, if_neg (by omega)]
        exact h48 k (by omega))
    refine ⟨σ', ?_, q2, f1.tr q3⟩
    rw [← q1, f_X8_undo_112, if_neg (le8 h8), h23, e64, chk_p g1, n1, chk_p n2, n3, g2, h66 t h8, lt_eq, lt_eq, nI_1]
theorem nI_ne {a b : Nat} (ha : a < 1000) (hb : b < 1000) (h : a ≠ b) : ¬ nI a = nI b := fun z => h ((nI_eq (by omega) (by omega)).mp z)
/-- the model's undo, its latest entry at place m -/
theorem undo8 {σ : SS} {m n s p : Nat} (hm : m < 8) (hp : p < 60) (hn : n ≤ 60) (hs : s = 1 ∨ s = 2 ∨ s = 3) (e23 : σ.1 25 0 23 = nI (m + 1)) (e6 : σ.1 25 0 6 = nI (n + (if s = 2 then 0 else 1))) (hn2 : s ≠ 2 → n < 60) (e64 : σ.1 64 0 m = nI s) (e65 : σ.1 65 0 m = nI p) (st : s ≠ 2 → f_X8_stands (nI n) σ = some (0, σ)) {E : Nat → Int} (e66 : s ≠ 1 → ∀ k, k < 8 → σ.1 66 0 (8 * m + k) = iz (E k)) : ∃ σ', f_X8_undo σ = some (nI m, σ') ∧ σ'.1 25 0 6 = nI n ∧ σ'.1 25 0 23 = nI m ∧ (s ≠ 1 → σ'.1 47 0 p = (if s ≠ 2 ∧ p = n then 1 else 1) ∧ BD σ' p E) ∧ fri (fun r i k => (r = 25 ∧ (k = 6 ∨ k = 23)) ∨ (s ≠ 2 ∧ (r = 47 ∨ r = 51) ∧ k = n) ∨ (s ≠ 1 ∧ ((r = 47 ∧ k = p) ∨ PBd p r i k))) σ σ' := by
  obtain ⟨g1, g2⟩ := n8 hm
  obtain ⟨gp1, gp2⟩ := n60 hp
  have c2 : nI s = (2 : Int32) ↔ s = 2 := nI_eq (b := 2) (by omega) (by decide)
  have c1 : nI s = (1 : Int32) ↔ s = 1 := nI_eq (b := 1) (by omega) (by decide)
  -- the last step
  have last : ∀ σ0 : SS, σ0.1 25 0 23 = nI m → (s ≠ 1 → ∀ k, k < 8 → σ0.1 66 0 (8 * m + k) = iz (E k)) → ∃ σ', f_X8_undo_98 (nI s) (nI p) σ0 = some (nI m, σ') ∧ (s ≠ 1 → σ'.1 47 0 p = 1 ∧ BD σ' p E) ∧ fri (fun r i k => s ≠ 1 ∧ ((r = 47 ∧ k = p) ∨ PBd p r i k)) σ0 σ' := by
    intro σ0 h23 h66
    rw [f_X8_undo_98]
    by_cases q : s = 1
    · rw [if_pos (c1.mpr q), h23]
      exact ⟨σ0, rfl, fun z => absurd q z, fri.rf _ _⟩
    · rw [if_neg (fun z => q (c1.mp z)), chk_p gp1, gp2, lt_eq, ← nI_0]
      obtain ⟨σ', q1, q2, q3⟩ := u112_loop hm hp (E := E) 8 0 FU (up σ0 47 0 p 1) rfl (by show 8 < 5000; omega) (by rw [up_rd, if_neg (by omega)]; exact h23) (fun k hk => by rw [up_rd, if_neg (by omega)]; exact h66 q k hk) (fun k hk => absurd hk (Nat.not_lt_zero _))
      refine ⟨σ', q1, fun _ => ⟨?_, q2⟩, (fri.up (fri.rf _ _) ⟨q, Or.inl ⟨rfl, rfl⟩⟩ : fri (fun r i k => s ≠ 1 ∧ ((r = 47 ∧ k = p) ∨ PBd p r i k)) σ0 (up σ0 47 0 p 1)).tr (q3.mono (fun _ _ _ z => ⟨q, Or.inr z⟩))⟩
      rw [q3.1 47 0 p (by unfold PBd; omega)]
      simp only [up_rd, and_self, if_true]
  have r23 : (up σ 25 0 23 (nI m)).1 25 0 23 = nI m := by simp only [up_rd, and_self, if_true]
  have r65 : (up σ 25 0 23 (nI m)).1 65 0 m = nI p := by rw [up_rd, if_neg (by omega)]; exact e65
  have head : f_X8_undo σ = f_X8_undo_43 (nI s) σ := by
    rw [f_X8_undo, e23, if_neg (nI_ne0 (by omega) (by omega)), nI_pred, chk_p g1, g2, lt_eq, e64]
    by_cases q : s = 2
    · rw [if_pos (c2.mpr q)]
    · rw [if_neg (fun z => q (c2.mp z)), e6, if_neg q, nI_pred, st q, cal_some, if_pos rfl]
  rw [head, f_X8_undo_43, e23, nI_pred, lt_eq, r23, chk_p g1, g2, lt_eq, r65]
  by_cases q : s = 2
  · rw [if_pos (c2.mpr q)]
    rw [if_pos q, Nat.add_zero] at e6
    obtain ⟨σ', q1, q2, q3⟩ := last (up σ 25 0 23 (nI m)) r23 (fun z k hk => by rw [up_rd, if_neg (by omega)]; exact e66 z k hk)
    refine ⟨σ', q1, ?_, ?_, fun z => ⟨by rw [(q2 z).1]; split <;> rfl, (q2 z).2⟩, (fri.up (fri.rf _ _) (Or.inl ⟨rfl, Or.inr rfl⟩) : fri _ σ (up σ 25 0 23 (nI m))).tr (q3.mono (fun _ _ _ z => Or.inr (Or.inr z)))⟩
    · rw [q3.1 25 0 6 (by unfold PBd; omega), up_rd, if_neg (by omega)]; exact e6
    · rw [q3.1 25 0 23 (by unfold PBd; omega)]; exact r23
  · rw [if_neg (fun z => q (c2.mp z))]
    rw [if_neg q] at e6
    obtain ⟨gn1, gn2⟩ := n60 (hn2 q)
    have r6 : (up σ 25 0 23 (nI m)).1 25 0 6 = nI (n + 1) := by rw [up_rd, if_neg (by omega)]; exact e6
    have r6b : (up (up σ 25 0 23 (nI m)) 25 0 6 (nI n)).1 25 0 6 = nI n := by simp only [up_rd, and_self, if_true]
    have r6c : (up (up (up σ 25 0 23 (nI m)) 25 0 6 (nI n)) 47 0 n 0).1 25 0 6 = nI n := by rw [up_rd, if_neg (by omega)]; exact r6b
    rw [r6, nI_pred, lt_eq, r6b, chk_p gn1, gn2, lt_eq, r6c, chk_p gn1, gn2, lt_eq]
    have f0 : fri (fun r i k => (r = 25 ∧ (k = 6 ∨ k = 23)) ∨ (s ≠ 2 ∧ (r = 47 ∨ r = 51) ∧ k = n) ∨ (s ≠ 1 ∧ ((r = 47 ∧ k = p) ∨ PBd p r i k))) σ (up (up (up (up σ 25 0 23 (nI m)) 25 0 6 (nI n)) 47 0 n 0) 51 0 n 0) := by
      refine fri.up (fri.up (fri.up (fri.up (fri.rf _ _) ?_) ?_) ?_) ?_
      · exact Or.inl ⟨rfl, Or.inr rfl⟩
      · exact Or.inl ⟨rfl, Or.inl rfl⟩
      · exact Or.inr (Or.inl ⟨q, Or.inl rfl, rfl⟩)
      · exact Or.inr (Or.inl ⟨q, Or.inr rfl, rfl⟩)
    have x23 : (up (up (up (up σ 25 0 23 (nI m)) 25 0 6 (nI n)) 47 0 n 0) 51 0 n 0).1 25 0 23 = nI m := by
      simp (config := { decide := true }) only [up_rd, and_self, if_true, false_and, and_false, if_false]
    have x6 : (up (up (up (up σ 25 0 23 (nI m)) 25 0 6 (nI n)) 47 0 n 0) 51 0 n 0).1 25 0 6 = nI n := by
      simp (config := { decide := true }) only [up_rd, and_self, if_true, false_and, if_false]
    have x66 : ∀ k, (up (up (up (up σ 25 0 23 (nI m)) 25 0 6 (nI n)) 47 0 n 0) 51 0 n 0).1 66 0 k = σ.1 66 0 k := fun k => by
      simp (config := { decide := true }) only [up_rd, false_and, if_false]
    generalize up (up (up (up σ 25 0 23 (nI m)) 25 0 6 (nI n)) 47 0 n 0) 51 0 n 0 = σ0 at f0 x23 x6 x66
    obtain ⟨σ', q1, q2, q3⟩ := last σ0 x23 (fun z k hk => by rw [x66]; exact e66 z k hk)
    refine ⟨σ', q1, ?_, ?_, fun z => ⟨by rw [(q2 z).1]; split <;> rfl, (q2 z).2⟩, f0.tr (q3.mono (fun _ _ _ z => Or.inr (Or.inr z)))⟩
    · rw [q3.1 25 0 6 (by unfold PBd; omega)]; exact x6
    · rw [q3.1 25 0 23 (by unfold PBd; omega)]; exact x23
