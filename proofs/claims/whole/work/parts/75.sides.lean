/-! ===== PURE: findSides ===== -/
def sa (T : Nat → Int) (r : Nat) : Bool := decide (ld T (ar r) ≠ 0)
def am (T : Nat → Int) (t : Nat) : List Nat := (sel (sa T) t).map ar
theorem ar_lt : ∀ r, r < 8 → ar r < 8 := by decide
theorem ar_inj : ∀ i, i < 8 → ∀ j, j < 8 → ar i = ar j → i = j := by decide
theorem gd_map {l : List Nat} {j : Nat} (h : j < l.length) (f : Nat → Nat) : gd (l.map f) j = f (gd l j) := by
  simp [gd, List.getD, h]
/-- the rows of the sides in l -/
def SD (σ : SS) (T : Nat → Int) (l : List Nat) : Prop := σ.1 25 0 17 = nI l.length ∧ ∀ j, j < l.length → σ.1 58 0 j = nI (gd l j) ∧ σ.1 59 0 j = iz (vx T (gd l j)) ∧ σ.1 60 0 j = iz (vy T (gd l j)) ∧ σ.1 61 0 j = iz (vx T (nxt (gd l j))) ∧ σ.1 62 0 j = iz (vy T (nxt (gd l j)))
theorem pushS_fr (σ : SS) (n k : Nat) (P Q : ZZ) : fri PSd σ (pushS σ n k P Q) := by
  unfold pushS
  refine fri.up (fri.up (fri.up (fri.up (fri.up (fri.up (fri.rf _ _) ?_) ?_) ?_) ?_) ?_) ?_ <;> (unfold PSd PRw; omega)
theorem pushS_SD {σ : SS} {T : Nat → Int} {l : List Nat} (h : SD σ T l) {k : Nat} : SD (pushS σ l.length k (vx T k, vy T k) (vx T (nxt k), vy T (nxt k))) T (l ++ [k]) := by
  obtain ⟨h1, h2⟩ := h
  refine ⟨?_, fun j hj => ?_⟩
  · rw [len_app]
    unfold pushS
    simp (config := { decide := true }) only [up_rd, and_self, if_true]
  · rw [len_app] at hj
    by_cases q : j = l.length
    · rw [q, gd_eq]
      unfold pushS
      refine ⟨?_, ?_, ?_, ?_, ?_⟩ <;> simp (config := { decide := true }) only [up_rd, and_self, if_true, false_and, if_false]
    · rw [gd_lt (by omega)]
      obtain ⟨a1, a2, a3, a4, a5⟩ := h2 j (by omega)
      unfold pushS
      refine ⟨?_, ?_, ?_, ?_, ?_⟩ <;> simp (config := { decide := true }) only [up_rd, q, and_false, false_and, if_false] <;> assumption
theorem PA.b {e : Nat → Int} {ps : List ZZ} (h : PA e ps) : PB ps ∧ ps.length ≤ 28 := ⟨h.1, h.2.1⟩
theorem let_T {e T : Nat → Int} (h : Fit e T) {x y : Int} : letz e x y ↔ ∀ k, k < 8 → mz k x y ≤ T k := ⟨fit_let h, fun hl k hk => Int.le_trans (hl k hk) (h.2.2.1 k hk)⟩
/-- a side that there is, of what the bounds let through -/
theorem side_fit {σ : SS} {e T : Nat → Int} {ps : List ZZ} (hF : Fit e T) (hM : MTb σ) (he : EB σ e) (hP : PTS σ ps) (hA : PA e ps) {k : Nat} (hk : k < 8) {n : Nat} (hs : σ.1 25 0 17 = nI n) : (ld T k = 0 → f_X8_findSide (nI k) σ = some ((), σ)) ∧ (ld T k ≠ 0 → n < 8 → f_X8_findSide (nI k) σ = some ((), pushS σ n k (vx T k, vy T k) (vx T (nxt k), vy T (nxt k)))) := by
  obtain ⟨s1, s2⟩ := p_findSide hM he hP hA.1 hA.2.1 hk hs
  have inT : ∀ q, q ∈ ps → ∀ k, k < 8 → mz k q.1 q.2 ≤ T k := fun q hq => (let_T hF).mp (hA.2.2.1 q hq)
  have cor : ∀ j, j < 8 → (vx T j, vy T j) ∈ ps := fun j hj => hA.2.2.2 _ _ ((let_T hF).mpr (fit_v hF j hj)) (fit_cand hF j hj)
  have hk2 := hF.2.2.1 k hk
  have hkd := hF.2.2.2 k hk
  have hle := hF.1 k hk
  have hv := v_on T k hk
  have hz := az_ld T k hk
  have bet : ∀ q, q ∈ ps → onl e k q → T k = 2 * e k ∧ az k (vx T k) (vy T k) ≤ aq k q ∧ aq k q ≤ az k (vx T (nxt k)) (vy T (nxt k)) := by
    intro q hq ho
    have h1 := inT q hq k hk
    unfold onl at ho
    have h2 : T k = 2 * e k := by omega
    exact ⟨h2, fit_az hF (inT q hq) k hk (by rw [ho, h2])⟩
  constructor
  · intro h0
    refine s1 (fun q q' h1 h2 o1 o2 => ?_)
    have b1 := bet q h1 o1
    have b2 := bet q' h2 o2
    have := hz.mpr h0
    omega
  · intro h0 hn
    have ht : T k = 2 * e k := by omega
    have c1 := cor k hk
    have c2 := cor (nxt k) (nxt_lt k hk)
    have o1 : onl e k (vx T k, vy T k) := by show mz k (vx T k) (vy T k) = _; rw [hv.1, ht]
    have o2 : onl e k (vx T (nxt k), vy T (nxt k)) := by show mz k (vx T (nxt k)) (vy T (nxt k)) = _; rw [hv.2, ht]
    have b1 := bet _ c1 o1
    refine s2 _ _ c1 c2 o1 o2 ?_ (fun w hw ow => (bet w hw ow).2) hn
    show az k (vx T k) (vy T k) < az k (vx T (nxt k)) (vy T (nxt k))
    have b2 := b1.2.2
    have b3 : aq k (vx T k, vy T k) = az k (vx T k) (vy T k) := rfl
    have : ¬ az k (vx T k) (vy T k) = az k (vx T (nxt k)) (vy T (nxt k)) := fun z => h0 (hz.mp z)
    omega
theorem sides_loop {e T : Nat → Int} {ps : List ZZ} (hF : Fit e T) (hA : PA e ps) : ∀ (s t fuel : Nat) (σ : SS), t + s = 8 → s < fuel → MTb σ → EB σ e → PTS σ ps → SD σ T (am T t) → ∃ σ', f_X8_findSides_11 fuel (nI t) σ = f_X8_findSides_33 σ' ∧ SD σ' T (am T 8) ∧ fri PSd σ σ' := by
  intro s
  induction s with
  | zero =>
    intro t fuel σ ht hf hM he hP hS
    obtain ⟨f, rfl⟩ : ∃ f, fuel = f + 1 := ⟨fuel - 1, by omega⟩
    have : t = 8 := by omega
    subst this
    rw [f_X8_findSides_11, if_pos (by decide)]
    exact ⟨σ, rfl, hS, fri.rf _ _⟩
  | succ s ih =>
    intro t fuel σ ht hf hM he hP hS
    obtain ⟨f, rfl⟩ : ∃ f, fuel = f + 1 := ⟨fuel - 1, by omega⟩
    have h8 : t < 8 := by omega
    obtain ⟨g1, g2⟩ := n8 h8
    obtain ⟨a1, a2⟩ := side_fit hF hM he hP hA (ar_lt t h8) hS.1
    rw [f_X8_findSides_11, if_neg (le8 h8), chk_p g1, g2, (hM t h8).2.2]
    have go : ∀ σ1, fri PSd σ σ1 → SD σ1 T (am T (t + 1)) → ∃ σ', f_X8_findSides_11 f (nI (t + 1)) σ1 = f_X8_findSides_33 σ' ∧ SD σ' T (am T 8) ∧ fri PSd σ σ' := by
      intro σ1 f1 h1
      obtain ⟨σ', q1, q2, q3⟩ := ih (t + 1) f σ1 (by omega) (by omega) (hM.fr f1 (by intro r k _ _; unfold PSd PRw; omega)) (he.fr f1 (by intro k; unfold PSd PRw; omega)) (hP.fr f1 (by intro r k hrk; unfold PSd PRw; omega)) h1
      exact ⟨σ', q1, q2, fri.tr f1 q3⟩
    by_cases q : ld T (ar t) = 0
    · rw [a1 q, cal_some, lt_eq, nI_1]
      refine go σ (fri.rf _ _) ?_
      unfold am
      rw [sel_f (show sa T t = false by unfold sa; exact decide_eq_false (fun z => z q))]
      exact hS
    · have hl : (am T t).length < 8 := by
        unfold am
        rw [List.length_map]
        have := sel_len (sa T) t
        omega
      rw [a2 q hl, cal_some, lt_eq, nI_1]
      refine go _ (pushS_fr _ _ _ _ _) ?_
      have e1 : am T (t + 1) = am T t ++ [ar t] := by
        unfold am
        rw [sel_t (show sa T t = true by unfold sa; exact decide_eq_true q), List.map_append]
        rfl
      rw [e1]
      exact pushS_SD hS
/-- which side comes first -/
def hdd (T : Nat → Int) : Nat := if ld T 6 ≠ 0 then 6 else if ld T 5 ≠ 0 then 5 else 3
theorem lex_hd {e T : Nat → Int} (h : Fit e T) : (ld T (hdd T) ≠ 0 ∧ vx T (hdd T) = vx T 6 ∧ vy T (hdd T) = vy T 6) ∧ ∀ k, k < 8 → ld T k ≠ 0 → k ≠ hdd T → vx T 6 < vx T k ∨ (vx T 6 = vx T k ∧ vy T 6 < vy T k) := by
  have hn := fit_no3 h
  obtain ⟨a, w, -, -⟩ := h
  have a := of8 a
  simp only [ld] at a hn
  obtain ⟨a0, a1, a2, a3, a4, a5, a6, a7⟩ := a
  by_cases q6 : ld T 6 ≠ 0
  · have e6 : hdd T = 6 := by unfold hdd; rw [if_pos q6]
    rw [e6]
    refine ⟨⟨q6, rfl, rfl⟩, ?_⟩
    simp only [ld] at q6
    apply all8 <;> intro z1 z2 <;> simp only [ld] at z1 <;> simp only [vx, vy, true_and] <;> omega
  · by_cases q5 : ld T 5 ≠ 0
    · have e6 : hdd T = 5 := by unfold hdd; rw [if_neg q6, if_pos q5]
      rw [e6]
      refine ⟨⟨q5, ?_, ?_⟩, ?_⟩
      · simp only [ld] at q6
        simp only [vx]
        omega
      · simp only [ld] at q6
        simp only [vy]
        omega
      · simp only [ld] at q5 q6
        apply all8 <;> intro z1 z2 <;> simp only [ld] at z1 <;> simp only [vx, vy, true_and] <;> omega
    · have e6 : hdd T = 3 := by unfold hdd; rw [if_neg q6, if_neg q5]
      rw [e6]
      simp only [ld] at q5 q6
      refine ⟨⟨?_, ?_, ?_⟩, ?_⟩
      · simp only [ld]
        omega
      · simp only [vx]
        omega
      · simp only [vy]
        omega
      · apply all8 <;> intro z1 z2 <;> simp only [ld] at z1 <;> simp only [vx, vy, true_and] <;> omega
