/-! ===== PURE: the class's shapes: settle ===== -/
/-- nothing but the places that P names has changed -/
def fri (P : Nat → Nat → Nat → Prop) (σ τ : SS) : Prop := (∀ r i k, ¬ P r i k → τ.1 r i k = σ.1 r i k) ∧ τ.2 = σ.2
theorem fri.rf (P : Nat → Nat → Nat → Prop) (σ : SS) : fri P σ σ := ⟨fun _ _ _ _ => rfl, rfl⟩
theorem fri.tr {P : Nat → Nat → Nat → Prop} {a b c : SS} (h1 : fri P a b) (h2 : fri P b c) : fri P a c := ⟨fun r i k h => (h2.1 r i k h).trans (h1.1 r i k h), h2.2.trans h1.2⟩
theorem fri.up {P : Nat → Nat → Nat → Prop} {a b : SS} (h1 : fri P a b) {r i k : Nat} {v : Int32} (hp : P r i k) : fri P a (up b r i k v) := ⟨fun r' i' k' h => by
  rw [← h1.1 r' i' k' h]
  exact if_neg (fun q => h (by rw [q.1, q.2.1, q.2.2]; exact hp)), h1.2⟩
theorem fri.mono {P Q : Nat → Nat → Nat → Prop} {a b : SS} (h1 : fri P a b) (h : ∀ r i k, P r i k → Q r i k) : fri Q a b := ⟨fun r i k q => h1.1 r i k (fun z => q (h r i k z)), h1.2⟩
theorem sf0 : ∀ k, k < 8 → sfn 0 k = iz (nz k) := by apply all8 <;> rfl
theorem sf1 : ∀ k, k < 8 → sfn 1 k = iz (wz k) := by apply all8 <;> rfl
theorem sf2 : ∀ k, k < 8 → sfn 2 k = nI (rd k) := by apply all8 <;> rfl
theorem n8 {n : Nat} (h : n < 8) : inr (nI n) 8 ∧ ix (nI n) = n := ⟨nI_in h (by decide), nI_clamp (by omega)⟩
theorem le8 {n : Nat} (h : n < 8) : ¬ (8 : Int32) ≤ nI n := nI_ge (b := 8) h (by decide)
theorem p_measure {k : Nat} (hk : k < 8) (x y : Int) (σ : SS) : f_X7_measure (nI k) (iz x) (iz y) σ = some (iz (mz k x y), σ) := by
  obtain ⟨g1, g2⟩ := n8 hk
  unfold f_X7_measure
  rw [chk_p g1, chk_p g1, g2, sf0 k hk, sf1 k hk, iz_mul, iz_mul, iz_add, mz_eq x y k hk]
theorem p_crossX {p a b : Nat} {R : Nat → Int} {σ : SS} (hR : ∀ k, k < 8 → σ.1 18 p k = iz (R k)) (ha : a < 8) (hb : b < 8) : f_X3_crossX p (nI a) (nI b) σ = some (iz (R a * wz b - R b * wz a), σ) := by
  obtain ⟨g1, g2⟩ := n8 ha
  obtain ⟨g3, g4⟩ := n8 hb
  unfold f_X3_crossX
  rw [chk_p g1, chk_p g3, chk_p g3, chk_p g1, g2, g4, sf1 a ha, sf1 b hb, hR a ha, hR b hb, iz_mul, iz_mul, iz_sub]
theorem p_crossY {p a b : Nat} {R : Nat → Int} {σ : SS} (hR : ∀ k, k < 8 → σ.1 18 p k = iz (R k)) (ha : a < 8) (hb : b < 8) : f_X3_crossY p (nI a) (nI b) σ = some (iz (R b * nz a - R a * nz b), σ) := by
  obtain ⟨g1, g2⟩ := n8 ha
  obtain ⟨g3, g4⟩ := n8 hb
  unfold f_X3_crossY
  rw [chk_p g3, chk_p g1, chk_p g1, chk_p g3, g2, g4, sf0 a ha, sf0 b hb, hR a ha, hR b hb, iz_mul, iz_mul, iz_sub]
theorem cx_v (R : Nat → Int) : ∀ i, i < 8 → R (rd ((i + 7) % 8)) * wz (rd i) - R (rd i) * wz (rd ((i + 7) % 8)) = vx R (rd i) ∧ R (rd i) * nz (rd ((i + 7) % 8)) - R (rd ((i + 7) % 8)) * nz (rd i) = vy R (rd i) := by
  apply all8 <;> simp (config := { decide := true }) only [rd, wz, nz, vx, vy] <;> omega
theorem cx_v2 (R : Nat → Int) : ∀ i, i < 8 → R (rd i) * wz (rd ((i + 1) % 8)) - R (rd ((i + 1) % 8)) * wz (rd i) = vx R (nxt (rd i)) ∧ R (rd ((i + 1) % 8)) * nz (rd i) - R (rd i) * nz (rd ((i + 1) % 8)) = vy R (nxt (rd i)) := by
  apply all8 <;> simp (config := { decide := true }) only [rd, wz, nz, vx, vy, nxt] <;> omega
/-- reaches that stay small -/
def Sm (R : Nat → Int) : Prop := ∀ k, k < 8 → -20000 ≤ R k ∧ R k ≤ 20000
theorem sm_v {R : Nat → Int} (h : Sm R) : ∀ k, k < 8 → (-40000 ≤ vx R k ∧ vx R k ≤ 40000) ∧ (-40000 ≤ vy R k ∧ vy R k ≤ 40000) := by
  have a := of8 h
  apply all8 <;> simp only [vx, vy] <;> omega
theorem nxt_lt : ∀ k, k < 8 → nxt k < 8 := by decide
/-- the rows of corners and sides, of the first t directions in the round -/
def SHt (σ : SS) (p : Nat) (R : Nat → Int) (t : Nat) : Prop := σ.1 17 p 4 = nI (sel (sp R) t).length ∧ ∀ j, j < (sel (sp R) t).length → σ.1 19 p j = iz (vx R (rd (gd (sel (sp R) t) j))) ∧ σ.1 20 p j = iz (vy R (rd (gd (sel (sp R) t) j))) ∧ σ.1 21 p j = nI (rd (gd (sel (sp R) t) j))
/-- a shape's places, its reaches aside -/
def PSh (p : Nat) (r i k : Nat) : Prop := i = p ∧ ((r = 17 ∧ k = 4) ∨ (19 ≤ r ∧ r ≤ 21))
theorem settle_ix : ∀ t, t < 8 → ((nI t + (8 : Int32)) - (1 : Int32)) - ((nI t + (8 : Int32)) - (1 : Int32)) / (8 : Int32) * (8 : Int32) = nI ((t + 7) % 8) ∧ (nI t + (1 : Int32)) - (nI t + (1 : Int32)) / (8 : Int32) * (8 : Int32) = nI ((t + 1) % 8) := by decide +kernel
theorem settle_push {σ : SS} {p : Nat} {R : Nat → Int} {t : Nat} (ht : t < 8) (hs : SHt σ p R t) (hp : sp R t = true) {K : Nat → Int32 → SS → Option (Unit × SS)} : ∃ σ', f_X3_settle_85 K p (nI t) (nI (rd t)) (iz (vx R (rd t))) (iz (vy R (rd t))) σ = K p (nI (t + 1)) σ' ∧ SHt σ' p R (t + 1) ∧ fri (PSh p) σ σ' := by
  obtain ⟨h1, h2⟩ := hs
  have hl := sel_len (sp R) t
  obtain ⟨g1, g2⟩ := n8 (show (sel (sp R) t).length < 8 by omega)
  refine ⟨up (up (up (up σ 19 p (sel (sp R) t).length (iz (vx R (rd t)))) 20 p (sel (sp R) t).length (iz (vy R (rd t)))) 21 p (sel (sp R) t).length (nI (rd t))) 17 p 4 (nI ((sel (sp R) t).length + 1)), ?_, ⟨?_, fun j hj => ?_⟩, ?_⟩
  · unfold f_X3_settle_85 f_X3_settle_127
    simp (config := { decide := true }) only [lt_, up_rd, false_and, if_false, h1, g2, chk_p g1, nI_1]
  · rw [sel_t hp, len_app]
    simp (config := { decide := true }) only [up_rd, and_self, if_true]
  · rw [sel_t hp] at hj ⊢
    rw [len_app] at hj
    by_cases q : j = (sel (sp R) t).length
    · rw [q, gd_eq]
      refine ⟨?_, ?_, ?_⟩ <;> simp (config := { decide := true }) only [up_rd, and_self, if_true, false_and, if_false]
    · rw [gd_lt (by omega)]
      obtain ⟨a1, a2, a3⟩ := h2 j (by omega)
      refine ⟨?_, ?_, ?_⟩ <;> simp (config := { decide := true }) only [up_rd, q, and_false, true_and, if_true, false_and, if_false] <;> assumption
  · refine fri.up (fri.up (fri.up (fri.up (fri.rf _ _) ?_) ?_) ?_) ?_ <;> (unfold PSh; omega)
theorem settle_loop {p : Nat} {R : Nat → Int} (hm : Sm R) : ∀ (s t fuel : Nat) (σ : SS), t + s = 8 → s < fuel → (∀ k, k < 8 → σ.1 18 p k = iz (R k)) → SHt σ p R t → ∃ σ', f_X3_settle_7 fuel p (nI t) σ = some ((), σ') ∧ SHt σ' p R 8 ∧ fri (PSh p) σ σ' := by
  intro s
  induction s with
  | zero =>
    intro t fuel σ ht hf hR hs
    obtain ⟨f, rfl⟩ : ∃ f, fuel = f + 1 := ⟨fuel - 1, by omega⟩
    have : t = 8 := by omega
    subst this
    rw [f_X3_settle_7, if_pos (by decide)]
    exact ⟨σ, rfl, hs, fri.rf _ _⟩
  | succ s ih =>
    intro t fuel σ ht hf hR hs
    obtain ⟨f, rfl⟩ : ∃ f, fuel = f + 1 := ⟨fuel - 1, by omega⟩
    have h8 : t < 8 := by omega
    obtain ⟨e1, e2⟩ := settle_ix t h8
    have m7 : (t + 7) % 8 < 8 := Nat.mod_lt _ (by decide)
    have m1 : (t + 1) % 8 < 8 := Nat.mod_lt _ (by decide)
    obtain ⟨g1, g2⟩ := n8 h8
    obtain ⟨g3, g4⟩ := n8 m7
    obtain ⟨g5, g6⟩ := n8 m1
    obtain ⟨c1, c2⟩ := cx_v R t h8
    obtain ⟨c3, c4⟩ := cx_v2 R t h8
    have r0 := rd_lt t h8
    have s1 := sm_v hm (rd t) r0
    have s2 := sm_v hm (nxt (rd t)) (nxt_lt _ r0)
    have ex : iz (vx R (rd t)) = iz (vx R (nxt (rd t))) ↔ vx R (rd t) = vx R (nxt (rd t)) := iz_eq ⟨by omega, by omega⟩ ⟨by omega, by omega⟩
    have ey : iz (vy R (rd t)) = iz (vy R (nxt (rd t))) ↔ vy R (rd t) = vy R (nxt (rd t)) := iz_eq ⟨by omega, by omega⟩ ⟨by omega, by omega⟩
    have hv := v_ld R (rd t) r0
    rw [f_X3_settle_7, if_neg (le8 h8), e1, e2, chk_p g3, g4, sf2 _ m7]
    simp only [lt_]
    rw [chk_p g1, g2, sf2 _ h8, chk_p g5, g6, sf2 _ m1, p_crossX hR (rd_lt _ m7) r0, cal_some, p_crossY hR (rd_lt _ m7) r0, cal_some, p_crossX hR r0 (rd_lt _ m1), cal_some, p_crossY hR r0 (rd_lt _ m1), c1, c2, c3, c4]
    have go : ∀ σ1, SHt σ1 p R (t + 1) → fri (PSh p) σ σ1 → ∃ σ', f_X3_settle_7 f p (nI (t + 1)) σ1 = some ((), σ') ∧ SHt σ' p R 8 ∧ fri (PSh p) σ σ' := by
      intro σ1 hs1 f1
      obtain ⟨σ', q1, q2, q3⟩ := ih (t + 1) f σ1 (by omega) (by omega) (fun k hk => by rw [f1.1 18 p k (by unfold PSh; omega)]; exact hR k hk) hs1
      exact ⟨σ', q1, q2, fri.tr f1 q3⟩
    have push : sp R t = true → ∃ σ', f_X3_settle_85 (f_X3_settle_7 f) p (nI t) (nI (rd t)) (iz (vx R (rd t))) (iz (vy R (rd t))) σ = some ((), σ') ∧ SHt σ' p R 8 ∧ fri (PSh p) σ σ' := by
      intro hp
      obtain ⟨σ1, q1, q2, q3⟩ := settle_push (K := f_X3_settle_7 f) h8 hs hp
      rw [q1]
      exact go σ1 q2 q3
    by_cases qx : vx R (rd t) = vx R (nxt (rd t))
    · rw [if_pos (ex.mpr qx), cal_some]
      by_cases qy : vy R (rd t) = vy R (nxt (rd t))
      · rw [if_pos (ey.mpr qy)]
        have hp : sp R t = false := by
          unfold sp
          exact decide_eq_false (fun z => z (hv.mp ⟨qx, qy⟩))
        show ∃ σ', f_X3_settle_7 f p (nI t + 1) σ = some ((), σ') ∧ _
        rw [nI_1]
        refine go σ ?_ (fri.rf _ _)
        unfold SHt
        rw [sel_f hp]
        exact hs
      · rw [if_neg (fun z => qy (ey.mp z))]
        exact push (by unfold sp; exact decide_eq_true (fun z => qy (hv.mpr z).2))
    · rw [if_neg (fun z => qx (ex.mp z))]
      exact push (by unfold sp; exact decide_eq_true (fun z => qx (hv.mpr z).1))
/-- what the class holds of a shape -/
def SH (σ : SS) (p : Nat) (R : Nat → Int) : Prop := (∀ k, k < 8 → σ.1 18 p k = iz (R k)) ∧ σ.1 17 p 4 = nI (pl R).length ∧ ∀ j, j < (pl R).length → σ.1 19 p j = iz (vx R (fd R j)) ∧ σ.1 20 p j = iz (vy R (fd R j)) ∧ σ.1 21 p j = nI (fd R j)
theorem SHt.fin {σ : SS} {p : Nat} {R : Nat → Int} (h : SHt σ p R 8) : σ.1 17 p 4 = nI (pl R).length ∧ ∀ j, j < (pl R).length → σ.1 19 p j = iz (vx R (fd R j)) ∧ σ.1 20 p j = iz (vy R (fd R j)) ∧ σ.1 21 p j = nI (fd R j) := h
theorem lt_eq {α β : Type} (v : β) (K : β → Option α) : lt_ v K = K v := rfl
theorem settle_un (p : Nat) (σ : SS) : f_X3_settle p σ = f_X3_settle_7 FU p (nI 0) (up σ 17 p 4 0) := by
  rw [f_X3_settle, lt_eq, nI_0]
theorem SHt.beg {σ : SS} {p : Nat} {R : Nat → Int} (h : σ.1 17 p 4 = 0) : SHt σ p R 0 := ⟨h, fun j hj => absurd hj (Nat.not_lt_zero _)⟩
theorem p_settle {σ : SS} {p : Nat} {R : Nat → Int} (hm : Sm R) (hR : ∀ k, k < 8 → σ.1 18 p k = iz (R k)) : ∃ σ', f_X3_settle p σ = some ((), σ') ∧ SH σ' p R ∧ fri (PSh p) σ σ' := by
  have f0 : fri (PSh p) σ (up σ 17 p 4 0) := fri.up (fri.rf _ _) (by unfold PSh; omega)
  have h0 : (up σ 17 p 4 0).1 17 p 4 = 0 := by simp only [up_rd, and_self, if_true]
  have hR0 : ∀ k, k < 8 → (up σ 17 p 4 0).1 18 p k = iz (R k) := fun k hk => by rw [f0.1 18 p k (by unfold PSh; omega)]; exact hR k hk
  have hf : 8 < FU := by unfold FU; omega
  rw [settle_un]
  generalize up σ 17 p 4 0 = σ0 at f0 h0 hR0 ⊢
  obtain ⟨σ', q1, q2, q3⟩ := settle_loop (p := p) hm 8 0 FU σ0 rfl hf hR0 (SHt.beg h0)
  have f1 := fri.tr f0 q3
  exact ⟨σ', q1, ⟨fun k hk => by rw [f1.1 18 p k (by unfold PSh; omega)]; exact hR k hk, q2.fin⟩, f1⟩
