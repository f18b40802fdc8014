/-! ===== PURE: the model: shared, keepsSides, nearness, restsOn ===== -/
theorem iz_0 : (0 : Int32) = iz 0 := rfl
theorem leafs {x M : Int} {σ : SS} (h : x = M) : some (iz x, σ) = some (iz M, σ) := by rw [h]
theorem shared_mm {a b c d : Int} (ha : bd a) (hb : bd b) (hc : bd c) (hd : bd d) (σ : SS) : f_X8_shared_183 (iz a) (iz b) (iz c) (iz d) σ = some (iz (max 0 (min (max a b) (max c d) - max (min a b) (min c d))), σ) := by
  have ab : iz a ≤ iz b ↔ a ≤ b := iz_le ha hb
  have ba : iz b ≤ iz a ↔ b ≤ a := iz_le hb ha
  have ac : iz a ≤ iz c ↔ a ≤ c := iz_le ha hc
  have ca : iz c ≤ iz a ↔ c ≤ a := iz_le hc ha
  have ad : iz a ≤ iz d ↔ a ≤ d := iz_le ha hd
  have da : iz d ≤ iz a ↔ d ≤ a := iz_le hd ha
  have bc : iz b ≤ iz c ↔ b ≤ c := iz_le hb hc
  have cb : iz c ≤ iz b ↔ c ≤ b := iz_le hc hb
  have bd' : iz b ≤ iz d ↔ b ≤ d := iz_le hb hd
  have db : iz d ≤ iz b ↔ d ≤ b := iz_le hd hb
  have cd : iz c ≤ iz d ↔ c ≤ d := iz_le hc hd
  have dc : iz d ≤ iz c ↔ d ≤ c := iz_le hd hc
  have aa : iz a ≤ iz a ↔ a ≤ a := iz_le ha ha
  have bb : iz b ≤ iz b ↔ b ≤ b := iz_le hb hb
  have cc : iz c ≤ iz c ↔ c ≤ c := iz_le hc hc
  have dd : iz d ≤ iz d ↔ d ≤ d := iz_le hd hd
  generalize hM : max 0 (min (max a b) (max c d) - max (min a b) (min c d)) = M
  clear ha hb hc hd
  unfold f_X8_shared_183 f_X8_shared_199 f_X8_shared_213 f_X8_shared_247 f_X8_shared_263 f_X8_shared_277 f_X8_shared_311
  simp only [ab, ba, ac, ca, ad, da, bc, cb, bd', db, cd, dc, aa, bb, cc, dd, iz_sub, iz_0]
  clear ab ba ac ca ad da bc cb bd' db cd dc aa bb cc dd
  by_cases h1 : b ≤ a <;> by_cases h2 : a ≤ b <;> (first | (exfalso; omega) | skip) <;> by_cases h3 : d ≤ c <;> by_cases h4 : c ≤ d <;> (first | (exfalso; omega) | skip) <;> simp only [h1, h2, h3, h4, if_true, if_false] <;> (repeat' split) <;> (first | (exfalso; omega) | exact leafs (by omega))
/-- the other rows of sides -/
def OF (σ : SS) (T : Nat → Int) : Prop := σ.1 25 0 29 = nI (pl T).length ∧ ∀ j, j < (pl T).length → σ.1 70 0 j = nI (fd T j) ∧ σ.1 71 0 j = iz (vx T (fd T j)) ∧ σ.1 72 0 j = iz (vy T (fd T j)) ∧ σ.1 73 0 j = iz (vx T (nxt (fd T j))) ∧ σ.1 74 0 j = iz (vy T (nxt (fd T j)))
def PO (r _i k : Nat) : Prop := (70 ≤ r ∧ r ≤ 74) ∨ (r = 25 ∧ k = 29)
theorem OF.fr {P : Nat → Nat → Nat → Prop} {σ τ : SS} {T : Nat → Int} (h : OF σ T) (f : fri P σ τ) (hp : ∀ r k, PO r 0 k → ¬ P r 0 k) : OF τ T := by
  unfold PO at hp
  refine ⟨by rw [f.1 25 0 29 (hp _ _ (by omega))]; exact h.1, fun j hj => ?_⟩
  rw [f.1 70 0 j (hp _ _ (by omega)), f.1 71 0 j (hp _ _ (by omega)), f.1 72 0 j (hp _ _ (by omega)), f.1 73 0 j (hp _ _ (by omega)), f.1 74 0 j (hp _ _ (by omega))]
  exact h.2 j hj
theorem SF.fr {P : Nat → Nat → Nat → Prop} {σ τ : SS} {T : Nat → Int} (h : SF σ T) (f : fri P σ τ) (hp : ∀ r k, (58 ≤ r ∧ r ≤ 62) ∨ (r = 25 ∧ k = 17) → ¬ P r 0 k) : SF τ T := by
  refine ⟨by rw [f.1 25 0 17 (hp _ _ (by omega))]; exact h.1, fun j hj => ?_⟩
  rw [f.1 58 0 j (hp _ _ (by omega)), f.1 59 0 j (hp _ _ (by omega)), f.1 60 0 j (hp _ _ (by omega)), f.1 61 0 j (hp _ _ (by omega)), f.1 62 0 j (hp _ _ (by omega))]
  exact h.2 j hj
theorem keepS_loop {T : Nat → Int} : ∀ (s t fuel : Nat) (σ : SS), t + s = (pl T).length → s < fuel → SF σ T → σ.1 25 0 29 = nI (pl T).length → (∀ j, j < t → σ.1 70 0 j = nI (fd T j) ∧ σ.1 71 0 j = iz (vx T (fd T j)) ∧ σ.1 72 0 j = iz (vy T (fd T j)) ∧ σ.1 73 0 j = iz (vx T (nxt (fd T j))) ∧ σ.1 74 0 j = iz (vy T (nxt (fd T j)))) → ∃ σ', f_X8_keepsSides_10 fuel (nI t) σ = some ((), σ') ∧ OF σ' T ∧ fri PO σ σ' := by
  have h8 := pl_len T
  intro s
  induction s with
  | zero =>
    intro t fuel σ ht hf hS h29 hj
    obtain ⟨f, rfl⟩ : ∃ f, fuel = f + 1 := ⟨fuel - 1, by omega⟩
    have : t = (pl T).length := by omega
    subst this
    rw [f_X8_keepsSides_10, hS.1, if_pos (nI_le (Nat.le_refl _) (by omega))]
    exact ⟨σ, rfl, ⟨h29, hj⟩, fri.rf _ _⟩
  | succ s ih =>
    intro t fuel σ ht hf hS h29 hj
    obtain ⟨f, rfl⟩ : ∃ f, fuel = f + 1 := ⟨fuel - 1, by omega⟩
    have htl : t < (pl T).length := by omega
    obtain ⟨g1, g2⟩ := n8 (show t < 8 by omega)
    obtain ⟨a0, a1, a2, a3, a4⟩ := hS.2 t htl
    have f1 : fri PO σ (up (up (up (up (up σ 70 0 t (nI (fd T t))) 71 0 t (iz (vx T (fd T t)))) 72 0 t (iz (vy T (fd T t)))) 73 0 t (iz (vx T (nxt (fd T t))))) 74 0 t (iz (vy T (nxt (fd T t))))) := by
      refine fri.up (fri.up (fri.up (fri.up (fri.up (fri.rf _ _) ?_) ?_) ?_) ?_) ?_ <;> (unfold PO; omega)
    obtain ⟨σ', q1, q2, q3⟩ := ih (t + 1) f (up (up (up (up (up σ 70 0 t (nI (fd T t))) 71 0 t (iz (vx T (fd T t)))) 72 0 t (iz (vy T (fd T t)))) 73 0 t (iz (vx T (nxt (fd T t))))) 74 0 t (iz (vy T (nxt (fd T t))))) (by omega) (by omega) (hS.fr f1 (by intro r k _; unfold PO; omega)) (by simp (config := { decide := true }) only [up_rd, false_and, if_false]; exact h29) (fun j hjt => by
      by_cases q : j = t
      · rw [q]
        refine ⟨?_, ?_, ?_, ?_, ?_⟩ <;> simp (config := { decide := true }) only [up_rd, and_self, if_true, false_and, if_false]
      · obtain ⟨b0, b1, b2, b3, b4⟩ := hj j (by omega)
        refine ⟨?_, ?_, ?_, ?_, ?_⟩ <;> simp (config := { decide := true }) only [up_rd, q, and_false, false_and, if_false] <;> assumption)
    refine ⟨σ', ?_, q2, f1.tr q3⟩
    rw [← q1, f_X8_keepsSides_10, hS.1, if_neg (nI_ge htl (by omega))]
    simp (config := { decide := true }) only [lt_, up_rd, false_and, if_false, g2, chk_p g1, a0, a1, a2, a3, a4, nI_1]
theorem p_keepsSides {σ : SS} {T : Nat → Int} (hS : SF σ T) : ∃ σ', f_X8_keepsSides σ = some ((), σ') ∧ OF σ' T ∧ fri PO σ σ' := by
  have h8 := pl_len T
  have f0 : fri PO σ (up σ 25 0 29 (nI (pl T).length)) := fri.up (fri.rf _ _) (by unfold PO; omega)
  obtain ⟨σ', q1, q2, q3⟩ := keepS_loop (T := T) (pl T).length 0 FU (up σ 25 0 29 (nI (pl T).length)) (by omega) (by show (pl T).length < 5000; omega) (hS.fr f0 (by intro r k _; unfold PO; omega)) (by simp only [up_rd, and_self, if_true]) (fun j hj => absurd hj (Nat.not_lt_zero _))
  exact ⟨σ', by rw [f_X8_keepsSides, hS.1, lt_eq, ← nI_0]; exact q1, q2, f0.tr q3⟩
/-- how long two sides lie on each other, of one direction or of opposite ones -/
def shz (A B : Nat → Int) (k l : Nat) : Int := if l % 4 = k % 4 ∧ mz k (vx B l) (vy B l) = A k then max 0 (ovr A B k l) else 0
theorem al_m {k l : Nat} (h : l % 4 = k % 4) (x y : Int) : al l x y = al k x y := by
  unfold al
  rw [h]
theorem p_shared {σ : SS} (hM : MTb σ) {A B : Nat → Int} (hO : OF σ A) (hS : SF σ B) (mA : Sm A) (mB : Sm B) {i j : Nat} (hi : i < (pl A).length) (hj : j < (pl B).length) : f_X8_shared (nI i) (nI j) σ = some (iz (shz A B (fd A i) (fd B j)), σ) := by
  have lA := pl_len A
  have lB := pl_len B
  obtain ⟨g1, g2⟩ := n8 (show i < 8 by omega)
  obtain ⟨g3, g4⟩ := n8 (show j < 8 by omega)
  obtain ⟨o0, o1, o2, o3, o4⟩ := hO.2 i hi
  obtain ⟨s0, s1, s2, s3, s4⟩ := hS.2 j hj
  have dA := fd_lt hi
  have dB := fd_lt hj
  obtain ⟨g5, g6⟩ := n8 dA
  have vA := sm_v mA _ dA
  have vA2 := sm_v mA _ (nxt_lt _ dA)
  have vB := sm_v mB _ dB
  have vB2 := sm_v mB _ (nxt_lt _ dB)
  have bk := mA _ dA
  have hu : nI (fd A i % 4) = 0 ↔ fd A i % 4 = 0 := nI_eq (b := 0) (by omega) (by decide)
  have hr : nI (fd B j % 4) = nI (fd A i % 4) ↔ fd B j % 4 = fd A i % 4 := nI_eq (by omega) (by omega)
  have mb := mz_b (x := vx B (fd B j)) (y := vy B (fd B j)) ⟨⟨by omega, by omega⟩, by omega, by omega⟩ _ dA
  have hl : iz (mz (fd A i) (vx B (fd B j)) (vy B (fd B j))) = iz (A (fd A i)) ↔ mz (fd A i) (vx B (fd B j)) (vy B (fd B j)) = A (fd A i) := iz_eq ⟨by omega, by omega⟩ ⟨by omega, by omega⟩
  have on := (v_on A _ dA).1
  have e18 : ∀ u, (u = 0 ∨ u = 1) → (u = 0 ↔ ¬ fd A i % 4 = 0) → f_X8_shared_18 (nI i) (nI j) (nI (fd A i)) u σ = some (iz (shz A B (fd A i) (fd B j)), σ) := by
    intro u hu1 hu2
    rw [f_X8_shared_18, chk_p g5, chk_p g1, chk_p g5, chk_p g1, g2, g6, o1, o2, mc_m hM dA, on, lt_eq, chk_p g3, g4, s0, rem4 dB, rem4 dA]
    unfold shz
    by_cases q : fd B j % 4 = fd A i % 4
    · rw [if_pos (hr.mpr q), chk_p g5, chk_p g3, chk_p g5, chk_p g3, s1, s2, mc_m hM dA]
      by_cases q2 : mz (fd A i) (vx B (fd B j)) (vy B (fd B j)) = A (fd A i)
      · rw [if_pos (hl.mpr q2), if_pos (show fd B j % 4 = fd A i % 4 ∧ mz (fd A i) (vx B (fd B j)) (vy B (fd B j)) = A (fd A i) from ⟨q, q2⟩)]
        have am1 := al_m q (vx B (fd B j)) (vy B (fd B j))
        have am2 := al_m q (vx B (nxt (fd B j))) (vy B (nxt (fd B j)))
        have e183 := shared_mm (a := al (fd A i) (vx A (fd A i)) (vy A (fd A i))) (b := al (fd A i) (vx A (nxt (fd A i))) (vy A (nxt (fd A i)))) (c := al (fd A i) (vx B (fd B j)) (vy B (fd B j))) (d := al (fd A i) (vx B (nxt (fd B j))) (vy B (nxt (fd B j)))) (by have := al_b (j := fd A i) mA dA; exact ⟨by omega, by omega⟩) (by have := al_b (j := fd A i) mA (nxt_lt _ dA); exact ⟨by omega, by omega⟩) (by have := al_b (j := fd A i) mB dB; exact ⟨by omega, by omega⟩) (by have := al_b (j := fd A i) mB (nxt_lt _ dB); exact ⟨by omega, by omega⟩) σ
        have eo : min (max (al (fd A i) (vx A (fd A i)) (vy A (fd A i))) (al (fd A i) (vx A (nxt (fd A i))) (vy A (nxt (fd A i))))) (max (al (fd A i) (vx B (fd B j)) (vy B (fd B j))) (al (fd A i) (vx B (nxt (fd B j))) (vy B (nxt (fd B j))))) - max (min (al (fd A i) (vx A (fd A i)) (vy A (fd A i))) (al (fd A i) (vx A (nxt (fd A i))) (vy A (nxt (fd A i))))) (min (al (fd A i) (vx B (fd B j)) (vy B (fd B j))) (al (fd A i) (vx B (nxt (fd B j))) (vy B (nxt (fd B j))))) = ovr A B (fd A i) (fd B j) := by
          unfold ovr hiE loE
          rw [am1, am2]
        rw [eo] at e183
        rw [← e183]
        by_cases qu : fd A i % 4 = 0
        · have u1 : ¬ u = 0 := fun z => hu2.mp z qu
          rw [if_neg u1, chk_p g1, f_X8_shared_117, if_neg u1, chk_p g1, f_X8_shared_139, if_neg u1, chk_p g3, f_X8_shared_161, if_neg u1, chk_p g3, g2, g4, o4, s2, s4]
          unfold al
          simp only [if_pos qu]
        · have u1 : u = 0 := hu2.mpr qu
          rw [if_pos u1, chk_p g1, f_X8_shared_117, if_pos u1, chk_p g1, f_X8_shared_139, if_pos u1, chk_p g3, f_X8_shared_161, if_pos u1, chk_p g3, g2, g4, o3, s1, s3]
          unfold al
          simp only [if_neg qu]
      · rw [if_neg (fun z => q2 (hl.mp z)), if_neg (fun z => q2 z.2)]
        rfl
    · rw [if_neg (fun z => q (hr.mp z)), if_neg (fun z => q z.1)]
      rfl
  rw [f_X8_shared, chk_p g1, g2, o0, lt_eq, rem4 dA]
  by_cases qu : fd A i % 4 = 0
  · rw [if_pos (hu.mpr qu)]
    exact e18 1 (Or.inr rfl) ⟨fun z => absurd z (by decide), fun z => absurd qu z⟩
  · rw [if_neg (fun z => qu (hu.mp z))]
    exact e18 0 (Or.inl rfl) ⟨fun _ => qu, fun _ => rfl⟩
theorem mod4 : ∀ k, k < 8 → ∀ l, l < 8 → l % 4 = k % 4 → l = k ∨ l = opp k := by decide
theorem shz_nn (A B : Nat → Int) (k l : Nat) : 0 ≤ shz A B k l := by
  unfold shz
  split <;> omega
/-- of shapes that don't overlap: just those of opposite directions -/
theorem shz_pos {e A e' B : Nat → Int} (hA : Fit e A) (hB : Fit e' B) (hn : ¬ Ovl A B) {k l : Nat} (hk : k < 8) (hl : l < 8) (sk : ld A k ≠ 0) (sl : ld B l ≠ 0) (h : 0 < shz A B k l) : l = opp k ∧ 0 < cmn A B k ∧ shz A B k l = cmn A B k := by
  unfold shz at h
  by_cases q : l % 4 = k % 4 ∧ mz k (vx B l) (vy B l) = A k
  · rw [if_pos q] at h
    rcases mod4 k hk l hl q.1 with z | z
    · subst z
      have := (v_on B l hl).1
      exact absurd (same_ovl hA hB hk (by omega) (by omega)) hn
    · have o1 := (v_on B l hl).1
      have o2 : mz l (vx B l) (vy B l) = -mz k (vx B l) (vy B l) := by
        rw [z]; exact mz_opp _ _ k hk
      have hs : A k + B (opp k) = 0 := by rw [← z]; omega
      have hc : cmn A B k = max 0 (ovr A B k l) := by
        unfold cmn
        rw [if_pos ⟨sk, by rw [← z]; exact sl, hs⟩, z]
      refine ⟨z, by omega, ?_⟩
      unfold shz
      rw [if_pos q, hc]
  · rw [if_neg q] at h
    omega
theorem shz_of {A B : Nat → Int} {k : Nat} (hk : k < 8) (h : 0 < cmn A B k) : shz A B k (opp k) = cmn A B k := by
  obtain ⟨h1, h2, h3, h4⟩ := cmn_pos h
  have o1 := (v_on B (opp k) (opp_lt k hk)).1
  rw [mz_opp _ _ k hk] at o1
  have m4 : opp k % 4 = k % 4 := by
    have key : ∀ k, k < 8 → opp k % 4 = k % 4 := by decide
    exact key k hk
  unfold shz
  rw [if_pos ⟨m4, by omega⟩]
  omega
