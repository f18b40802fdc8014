/-! ===== PURE: what is walked ===== -/
def wtl (g : Nat → List Nat) (wh : Nat → Nat → Bool) (it : Nat → Nat → Nat) (a : Nat) : Nat → List Nat
  | 0 => []
  | k + 1 => wtl g wh it a k ++ (if wh a k = true then g (it a k) else [it a k])
def wlf (m : Nat → Nat) (wh : Nat → Nat → Bool) (it : Nat → Nat → Nat) : Nat → Nat → List Nat
  | 0, _ => []
  | f + 1, a => wtl (wlf m wh it f) wh it a (m a)
def Wl (m : Nat → Nat) (wh : Nat → Nat → Bool) (it : Nat → Nat → Nat) (a : Nat) : List Nat := wlf m wh it 12 a
theorem wtl_cg {g g' : Nat → List Nat} {wh : Nat → Nat → Bool} {it : Nat → Nat → Nat} {a : Nat} : ∀ {k}, (∀ i, i < k → wh a i = true → g (it a i) = g' (it a i)) → wtl g wh it a k = wtl g' wh it a k := by
  intro k
  induction k with
  | zero => intro _; rfl
  | succ k ih =>
    intro h
    show wtl g wh it a k ++ _ = wtl g' wh it a k ++ _
    rw [ih (fun i hi => h i (by omega))]
    congr 1
    cases q : wh a k with
    | false => rfl
    | true =>
      simp only [if_true]
      exact h k (by omega) q
theorem wlf_st {an : Nat} {m : Nat → Nat} {wh : Nat → Nat → Bool} {it : Nat → Nat → Nat} {wi : Nat → Nat → Bool} (h : GR an m wh it wi) (hn : an ≤ 12) : ∀ f a, a < an → rk wi a < f → wlf m wh it (f + 1) a = wlf m wh it f a := by
  intro f
  induction f with
  | zero => intro a _ hr; omega
  | succ f ih =>
    intro a ha hr
    show wtl (wlf m wh it (f + 1)) wh it a (m a) = wtl (wlf m wh it f) wh it a (m a)
    refine wtl_cg (fun i hi q => ?_)
    have := h.rk_lt hn ha hi q
    exact ih _ ((h.1 a ha).2 i hi q).1 (by omega)
theorem Wl_eq {an : Nat} {m : Nat → Nat} {wh : Nat → Nat → Bool} {it : Nat → Nat → Nat} {wi : Nat → Nat → Bool} (h : GR an m wh it wi) (hn : an ≤ 12) {a : Nat} (ha : a < an) : Wl m wh it a = wtl (Wl m wh it) wh it a (m a) := by
  have := h.rk_an hn ha
  exact (wlf_st h hn 12 a ha (by omega)).symm
theorem wtl_len {g : Nat → List Nat} {w : Nat → Nat} {wh : Nat → Nat → Bool} {it : Nat → Nat → Nat} {a : Nat} : ∀ {k}, (∀ i, i < k → wh a i = true → (g (it a i)).length = w (it a i)) → (wtl g wh it a k).length = sumI (fun i => if wh a i = true then w (it a i) else 1) k := by
  intro k
  induction k with
  | zero => intro _; rfl
  | succ k ih =>
    intro h
    show (wtl g wh it a k ++ (if wh a k = true then g (it a k) else [it a k])).length = sumI _ k + (if wh a k = true then w (it a k) else 1)
    rw [List.length_append, ih (fun i hi => h i (by omega))]
    congr 1
    cases q : wh a k with
    | false => rfl
    | true =>
      simp only [if_true]
      exact h k (by omega) q
theorem Wl_len {an : Nat} {m : Nat → Nat} {wh : Nat → Nat → Bool} {it : Nat → Nat → Nat} {wi : Nat → Nat → Bool} (h : GR an m wh it wi) (hn : an ≤ 12) {W : Nat → Nat} (hW : ∀ a, a < an → W a = sW m wh it W a ∧ W a ≤ 500) : ∀ a, a < an → (Wl m wh it a).length = W a := by
  refine h.ind hn (fun a ha ih => ?_)
  rw [Wl_eq h hn ha, wtl_len (w := W) (fun i hi q => ih i hi q), (hW a ha).1]
  rfl
theorem wtl_pre {g : Nat → List Nat} {wh : Nat → Nat → Bool} {it : Nat → Nat → Nat} {a : Nat} : ∀ s k j, j < (wtl g wh it a k).length → gd (wtl g wh it a (k + s)) j = gd (wtl g wh it a k) j ∧ (wtl g wh it a k).length ≤ (wtl g wh it a (k + s)).length := by
  intro s
  induction s with
  | zero => intro k j _; exact ⟨rfl, Nat.le_refl _⟩
  | succ s ih =>
    intro k j hj
    obtain ⟨h1, h2⟩ := ih k j hj
    show gd (wtl g wh it a (k + s) ++ _) j = _ ∧ _ ≤ (wtl g wh it a (k + s) ++ _).length
    rw [gd_l (by omega), List.length_append]
    exact ⟨h1, by omega⟩
/-- what stands in the way -/
def WY (σ : SS) (l : List Nat) : Prop := σ.1 12 0 3 = nI l.length ∧ ∀ j, j < l.length → σ.1 14 0 j = nI (gd l j)
def PW (r _i k : Nat) : Prop := r = 14 ∨ (r = 12 ∧ k = 3)
theorem PW_as : ∀ r i k, PAs r i k → ¬ PW r i k := by
  intro r i k h
  unfold PAs at h
  unfold PW
  omega
theorem gat_loop {an : Nat} {m : Nat → Nat} {wh : Nat → Nat → Bool} {it : Nat → Nat → Nat} {W wv : Nat → Nat} {a d : Nat} (ha : a < an) {pre : List Nat} (hl : pre.length + W a ≤ 500) {G : Int32 → Int32 → SS → Option (Unit × SS)} (hn : an ≤ 12) (hGR : GR an m wh it (wiV wv)) (hWW : ∀ a, a < an → W a = sW m wh it W a ∧ W a ≤ 500) (hG : ∀ i, i < m a → wh a i = true → ∀ (σ : SS) (p : List Nat), AS σ an m wh it W wv → WY σ p → p.length + W (it a i) ≤ 500 → ∃ σ', G (nI (it a i)) (nI (d + 1)) σ = some ((), σ') ∧ WY σ' (p ++ Wl m wh it (it a i)) ∧ fri PW σ σ') : ∀ (s i fuel : Nat) (σ : SS), i + s = m a → s < fuel → AS σ an m wh it W wv → WY σ (pre ++ wtl (Wl m wh it) wh it a i) → ∃ σ', f_X0_gatherDown_17 G fuel (nI d) (some a) (nI i) σ = some ((), σ') ∧ WY σ' (pre ++ Wl m wh it a) ∧ fri PW σ σ' := by
  have lens := Wl_len hGR hn hWW
  have m20 := (hGR.1 a ha).1
  intro s
  induction s with
  | zero =>
    intro i fuel σ hi hf h hw
    obtain ⟨f, rfl⟩ : ∃ f, fuel = f + 1 := ⟨fuel - 1, by omega⟩
    rw [f_X0_gatherDown_17, oel_s, (h.1.2 a ha).2.1, if_pos (nI_le (by omega) (by omega))]
    refine ⟨σ, rfl, ?_, fri.rf _ _⟩
    rw [Wl_eq hGR hn ha, ← show i = m a by omega]
    exact hw
  | succ s ih =>
    intro i fuel σ hi hf h hw
    obtain ⟨f, rfl⟩ : ∃ f, fuel = f + 1 := ⟨fuel - 1, by omega⟩
    have him : i < m a := by omega
    have i20 : inr (nI i) 20 := nI_in (by omega) (by decide)
    have c20 : ix (nI i) = i := nI_clamp (by omega)
    obtain ⟨c1, c2, c3⟩ := (h.2.2 a ha).2.2 i him
    have tot : (wtl (Wl m wh it) wh it a (i + 1)).length ≤ W a := by
      have hla := lens a ha
      rw [Wl_eq hGR hn ha] at hla
      by_cases z : 0 < (wtl (Wl m wh it) wh it a (i + 1)).length
      · have := (wtl_pre (g := Wl m wh it) (wh := wh) (it := it) (a := a) (m a - (i + 1)) (i + 1) 0 z).2
        rw [show i + 1 + (m a - (i + 1)) = m a by omega] at this
        omega
      · omega
    have es : wtl (Wl m wh it) wh it a (i + 1) = wtl (Wl m wh it) wh it a i ++ (if wh a i = true then Wl m wh it (it a i) else [it a i]) := rfl
    have e101 : ∀ σ1, f_X0_gatherDown_76 (f_X0_gatherDown_17 G f) G (nI d) (some a) (nI i) σ1 = f_X0_gatherDown_17 G f (nI d) (some a) (nI (i + 1)) σ1 := by
      intro σ1
      rw [f_X0_gatherDown_76, lt_eq, nI_1]
    rw [f_X0_gatherDown_17, oel_s, (h.1.2 a ha).2.1, if_neg (nI_ge him (by omega)), chk_p i20, c20, lt_eq, chk_p i20, c1, c2]
    cases q : wh a i with
    | false =>
      rw [q, if_neg (by decide)] at es
      have ln : (pre ++ wtl (Wl m wh it) wh it a i).length < 500 := by
        rw [es, List.length_append] at tot
        rw [List.length_append]
        simp only [List.length_singleton] at tot
        omega
      have ilen : inr (nI (pre ++ wtl (Wl m wh it) wh it a i).length) 500 := nI_in ln (by decide)
      have clen : ix (nI (pre ++ wtl (Wl m wh it) wh it a i).length) = (pre ++ wtl (Wl m wh it) wh it a i).length := nI_clamp (by omega)
      rw [if_pos (show b01 false = 0 by decide), f_X0_gatherPiece, hw.1, if_neg (show ¬ (500 : Int32) ≤ nI (pre ++ wtl (Wl m wh it) wh it a i).length from nI_ge (b := 500) ln (by decide)), chk_p ilen, clen, lt_eq]
      generalize hL : pre ++ wtl (Wl m wh it) wh it a i = L at *
      have r3 : (up σ 14 0 L.length (nI (it a i))).1 12 0 3 = nI L.length := by rw [up_rd, if_neg (by omega)]; exact hw.1
      rw [r3, nI_1, lt_eq, cal_some, e101]
      have f1 : fri PW σ (up (up σ 14 0 L.length (nI (it a i))) 12 0 3 (nI (L.length + 1))) := by
        refine fri.up (fri.up (fri.rf _ _) ?_) ?_ <;> (unfold PW; omega)
      obtain ⟨σ', q1, q2, q3⟩ := ih (i + 1) f (up (up σ 14 0 L.length (nI (it a i))) 12 0 3 (nI (L.length + 1))) (by omega) (by omega) (h.fr f1.p PW_as) (by
        rw [es, ← List.append_assoc, hL]
        refine ⟨by rw [len_app]; simp only [up_rd, and_self, if_true], fun j hj => ?_⟩
        rw [len_app] at hj
        rw [up_rd, if_neg (by omega)]
        by_cases z : j = L.length
        · rw [z, gd_eq]
          simp only [up_rd, and_self, if_true]
        · rw [gd_lt (by omega), up_rd, if_neg (by omega)]
          exact hw.2 j (by omega))
      exact ⟨σ', q1, q2, f1.tr q3⟩
    | true =>
      rw [q, if_pos rfl] at es
      have hb := ((hGR.1 a ha).2 i him q).1
      obtain ⟨r1, r2, r3⟩ := row_at h.1.1 hb
      have hWc := (h.2.2 _ hb).1
      have hz : nI (W (it a i)) ≤ (0 : Int32) ↔ W (it a i) ≤ 0 := nI_leI (b := 0) (by omega) (by decide)
      rw [if_neg (show ¬ b01 true = 0 by decide), chk_p r1, r3, lt_eq, oel_s, hWc.1]
      by_cases z : W (it a i) ≤ 0
      · rw [if_pos (hz.mpr z), e101]
        refine ih (i + 1) f σ (by omega) (by omega) h ?_
        have : Wl m wh it (it a i) = [] := List.eq_nil_of_length_eq_zero (by rw [lens _ hb]; omega)
        rw [es, this, List.append_nil]
        exact hw
      · rw [if_neg (fun y => z (hz.mp y)), nI_1]
        obtain ⟨σ1, g1, g2, g3⟩ := hG i him q σ (pre ++ wtl (Wl m wh it) wh it a i) h hw (by
          rw [es, List.length_append, lens _ hb] at tot
          rw [List.length_append]
          omega)
        rw [g1, cal_some, e101]
        obtain ⟨σ', q1, q2, q3⟩ := ih (i + 1) f σ1 (by omega) (by omega) (h.fr g3.p PW_as) (by rw [es, ← List.append_assoc]; exact g2)
        exact ⟨σ', q1, q2, g3.tr q3⟩
theorem gat_down {an : Nat} {m : Nat → Nat} {wh : Nat → Nat → Bool} {it : Nat → Nat → Nat} {W wv : Nat → Nat} (hn : an ≤ 12) (hGR : GR an m wh it (wiV wv)) (hWW : ∀ a, a < an → W a = sW m wh it W a ∧ W a ≤ 500) : ∀ a, a < an → ∀ (F d : Nat) (σ : SS) (pre : List Nat), d + rk (wiV wv) a < 12 → rk (wiV wv) a < F → AS σ an m wh it W wv → WY σ pre → pre.length + W a ≤ 500 → ∃ σ', f_X0_gatherDown F (nI a) (nI d) σ = some ((), σ') ∧ WY σ' (pre ++ Wl m wh it a) ∧ fri PW σ σ' := by
  refine hGR.ind hn (fun a ha ih F d σ pre hd hF h hw hl => ?_)
  obtain ⟨f, rfl⟩ : ∃ f, F = f + 1 := ⟨F - 1, by omega⟩
  obtain ⟨r1, r2, r3⟩ := row_at h.1.1 ha
  have m20 := (hGR.1 a ha).1
  rw [f_X0_gatherDown, if_pos (show nI d < (12 : Int32) from nI_lt (b := 12) (by omega) (by decide)), chk_p r1, r3, lt_eq, ← nI_0]
  refine gat_loop ha hl hn hGR hWW (fun i hi hwh σ0 p h0 hw0 hl0 => ?_) (m a) 0 FU σ (by omega) (by show m a < 5000; omega) h (by show WY σ (pre ++ []); rw [List.append_nil]; exact hw)
  have := hGR.rk_lt hn ha hi hwh
  exact ih i hi hwh f (d + 1) σ0 p (by omega) (by omega) h0 hw0 hl0
theorem p_gather {σ : SS} {an : Nat} {m : Nat → Nat} {wh : Nat → Nat → Bool} {it : Nat → Nat → Nat} {W wv : Nat → Nat} (h : AS σ an m wh it W wv) {a : Nat} (ha : a < an) : ∃ σ', f_X0_gather (nI a) σ = some ((), σ') ∧ WY σ' (Wl m wh it a) ∧ fri PW σ σ' := by
  have hn := h.1.1.1
  have f0 : fri PW σ (up σ 12 0 3 0) := fri.up (fri.rf _ _) (by unfold PW; omega)
  have hr := h.2.1.rk_an hn ha
  obtain ⟨σ', q1, q2, q3⟩ := gat_down hn h.2.1 h.hW a ha 13 0 (up σ 12 0 3 0) [] (by omega) (by omega) (h.fr f0.p PW_as) ⟨by simp only [up_rd, and_self, if_true]; rfl, fun j hj => absurd hj (Nat.not_lt_zero _)⟩ (by have := (h.hW a ha).2; simp only [List.length_nil]; omega)
  refine ⟨σ', ?_, q2, f0.tr q3⟩
  rw [nI_0] at q1
  rw [f_X0_gather, lt_eq, q1, cal_some]
/-- the model finds the i-th -/
theorem wat_loop {σ : SS} {an : Nat} {m : Nat → Nat} {wh : Nat → Nat → Bool} {it : Nat → Nat → Nat} {wi : Nat → Nat → Bool} {W : Nat → Nat} (hn : an ≤ 12) (hGR : GR an m wh it wi) (hWW : ∀ a, a < an → W a = sW m wh it W a ∧ W a ≤ 500) (hI : MI8 σ an m wh it) (hK : ∀ a, a < an → σ.1 85 0 a = nI (W a)) : ∀ a, a < an → ∀ (s k fuel i : Nat), k + s = m a → 21 * rk wi a + s < fuel → (wtl (Wl m wh it) wh it a k).length + i < W a → f_X8_walkedAt_8 fuel (nI a) (nI i) (nI k) σ = some (nI (gd (Wl m wh it a) ((wtl (Wl m wh it) wh it a k).length + i)), σ) := by
  have lens := Wl_len hGR hn hWW
  refine hGR.ind hn (fun a ha ih => ?_)
  have m20 := (hGR.1 a ha).1
  have hla := lens a ha
  intro s
  induction s with
  | zero =>
    intro k fuel i hk hf hlt
    rw [Wl_eq hGR hn ha, ← show k = m a by omega] at hla
    omega
  | succ s ihs =>
    intro k fuel i hk hf hlt
    obtain ⟨f, rfl⟩ : ∃ f, fuel = f + 1 := ⟨fuel - 1, by omega⟩
    have hkm : k < m a := by omega
    obtain ⟨n1, n2, n3⟩ := n240 (show a < 12 by omega) (show k < 20 by omega)
    obtain ⟨e83, e84⟩ := (hI.2 a ha).2 k hkm
    have es : wtl (Wl m wh it) wh it a (k + 1) = wtl (Wl m wh it) wh it a k ++ (if wh a k = true then Wl m wh it (it a k) else [it a k]) := rfl
    have hW5 := (hWW a ha).2
    -- an index within this item
    have at_item : ∀ seg : List Nat, wtl (Wl m wh it) wh it a (k + 1) = wtl (Wl m wh it) wh it a k ++ seg → i < seg.length → gd (Wl m wh it a) ((wtl (Wl m wh it) wh it a k).length + i) = gd seg i := by
      intro seg hs hi
      have := (wtl_pre (g := Wl m wh it) (wh := wh) (it := it) (a := a) (m a - (k + 1)) (k + 1) ((wtl (Wl m wh it) wh it a k).length + i) (by rw [hs, List.length_append]; omega)).1
      rw [show k + 1 + (m a - (k + 1)) = m a by omega, ← Wl_eq hGR hn ha] at this
      rw [this, hs, gd_r]
    have step : ∀ nn : Nat, nn ≤ i → (wtl (Wl m wh it) wh it a (k + 1)).length = (wtl (Wl m wh it) wh it a k).length + nn → f_X8_walkedAt_97 (f_X8_walkedAt_8 f) (nI a) (nI i - nI nn) (nI k + 1) σ = some (nI (gd (Wl m wh it a) ((wtl (Wl m wh it) wh it a k).length + i)), σ) := by
      intro nn hle hlen
      have := ihs (k + 1) f (i - nn) (by omega) (by omega) (by omega)
      rw [f_X8_walkedAt_97, pk_sub hle, nI_1, this, hlen, show (wtl (Wl m wh it) wh it a k).length + nn + (i - nn) = (wtl (Wl m wh it) wh it a k).length + i by omega]
    rw [f_X8_walkedAt_8, n1, lt_eq, chk_p n2, n3, e84]
    cases q : wh a k with
    | false =>
      rw [q, if_neg (by decide)] at es
      rw [if_pos (show b01 false = 0 by decide), f_X8_walkedAt_43]
      by_cases z : i < 1
      · rw [if_pos (show nI i < (1 : Int32) from nI_lt (b := 1) z (by decide)), chk_p n2, n3, e84, q, if_pos (show b01 false = 0 by decide), f_X8_walkedAt_89, chk_p n2, n3, e83, at_item [it a k] es (by simp only [List.length_singleton]; exact z)]
        have : i = 0 := by omega
        rw [this]
        rfl
      · rw [if_neg (show ¬ nI i < (1 : Int32) from nI_nlt (b := 1) (by omega) (by omega)), lt_eq, lt_eq]
        exact step 1 (by omega) (by rw [es, List.length_append]; rfl)
    | true =>
      rw [q, if_pos rfl] at es
      have hb := ((hGR.1 a ha).2 k hkm q).1
      have hWb := (hWW _ hb).2
      obtain ⟨k1, k2, -, -⟩ := n12 (show it a k < 12 by omega)
      rw [if_neg (show ¬ b01 true = 0 by decide), chk_p n2, e83, chk_p k1, k2, hK _ hb, f_X8_walkedAt_43]
      by_cases z : i < W (it a k)
      · have hr := hGR.rk_lt hn ha hkm q
        have mb := (hGR.1 _ hb).1
        have := ih k hkm q (m (it a k)) 0 f i (by omega) (by omega) (by show 0 + i < _; omega)
        rw [nI_0] at this
        rw [if_pos (nI_lt z (by omega)), chk_p n2, n3, e84, q, if_neg (show ¬ b01 true = 0 by decide), chk_p n2, e83, lt_eq, f_X8_walkedAt_97, this, at_item _ es (by rw [lens _ hb]; exact z)]
        show some (nI (gd (Wl m wh it (it a k)) (0 + i)), σ) = _
        rw [Nat.zero_add]
      · rw [if_neg (nI_nlt (by omega) (by omega)), lt_eq, lt_eq]
        exact step (W (it a k)) (by omega) (by rw [es, List.length_append, lens _ hb])
theorem p_walkedAt {σ : SS} {an : Nat} {m : Nat → Nat} {wh : Nat → Nat → Bool} {it : Nat → Nat → Nat} {wi : Nat → Nat → Bool} {W : Nat → Nat} (hn : an ≤ 12) (hGR : GR an m wh it wi) (hWW : ∀ a, a < an → W a = sW m wh it W a ∧ W a ≤ 500) (hI : MI8 σ an m wh it) (hK : ∀ a, a < an → σ.1 85 0 a = nI (W a)) {a i : Nat} (ha : a < an) (hi : i < W a) : f_X8_walkedAt (nI a) (nI i) σ = some (nI (gd (Wl m wh it a) i), σ) := by
  have hr := hGR.rk_an hn ha
  have m20 := (hGR.1 a ha).1
  have := wat_loop hn hGR hWW hI hK a ha (m a) 0 FU i (by omega) (by show 21 * rk wi a + m a < 5000; omega) (by show 0 + i < _; omega)
  rw [nI_0] at this
  rw [f_X8_walkedAt, this]
  show some (nI (gd (Wl m wh it a) (0 + i)), σ) = _
  rw [Nat.zero_add]
