/-! ===== PURE: the class's assemblies: hasRoom ===== -/
def wiV (wv : Nat → Nat) (a b : Nat) : Bool := (wv a).testBit b
/-- the assemblies, on both sides -/
def AS (σ : SS) (an : Nat) (m : Nat → Nat) (wh : Nat → Nat → Bool) (it : Nat → Nat → Nat) (W wv : Nat → Nat) : Prop := IT σ an m ∧ GR an m wh it (wiV wv) ∧ ∀ a, a < an → (σ.1 22 a 3 = nI (W a) ∧ W a ≤ 500 ∧ W a = sW m wh it W a) ∧ (σ.1 22 a 4 = nI (wv a) ∧ wv a < 4096) ∧ ∀ i, i < m a → σ.1 23 a i = nI (it a i) ∧ σ.1 24 a i = b01 (wh a i) ∧ it a i < 60
theorem AS.mi {σ : SS} {an : Nat} {m : Nat → Nat} {wh : Nat → Nat → Bool} {it : Nat → Nat → Nat} {W wv : Nat → Nat} (h : AS σ an m wh it W wv) : MI8 σ an m wh it := by
  refine ⟨h.1.1.2.2.1, fun a ha => ⟨(h.1.2 a ha).2.2.1, fun i hi => ?_⟩⟩
  obtain ⟨b1, b2⟩ := (h.1.2 a ha).2.2.2 i hi
  obtain ⟨c1, c2, -⟩ := (h.2.2 a ha).2.2 i hi
  exact ⟨by rw [b1, c1], by rw [b2, c2]⟩
theorem row_at {σ : SS} {an a : Nat} (h : AN σ an) (ha : a < an) : inr (nI a) 12 ∧ ix (nI a) = a ∧ (if ix (nI a) < σ.2.2 then some (ix (nI a)) else none) = some a := by
  have := h.1
  have hc := h.2.2.2
  obtain ⟨g1, g2, -, -⟩ := n12 (show a < 12 by omega)
  refine ⟨g1, g2, ?_⟩
  rw [g2, if_pos (by omega)]
def P15 (r _i _k : Nat) : Prop := r = 15
theorem AN.fr {P : Nat → Nat → Nat → Prop} {σ τ : SS} {an : Nat} (h : AN σ an) (f : fri P σ τ) (hp : ¬ P 12 0 1 ∧ ¬ P 25 0 41) : AN τ an := ⟨h.1, by rw [f.1 12 0 1 hp.1]; exact h.2.1, by rw [f.1 25 0 41 hp.2]; exact h.2.2.1, by rw [f.2]; exact h.2.2.2⟩
theorem gop_loop {σ : SS} {an : Nat} {m : Nat → Nat} {wh : Nat → Nat → Bool} {it : Nat → Nat → Nat} {W wv : Nat → Nat} (h : AS σ an m wh it W wv) {a : Nat} (ha : a < an) {g : Nat → Nat} (hg : ∀ i, i < m a → wh a i = true → σ.1 15 0 (it a i) = nI (g (it a i))) : ∀ (s i fuel : Nat), i + s = m a → s < fuel → f_X0_gainOfParts_4 fuel a (nI (sumI (fun i => if wh a i = true then g (it a i) else 0) i)) (nI i) σ = some (nI (sumI (fun i => if wh a i = true then g (it a i) else 0) (m a)), σ) := by
  have hn := h.1.1.1
  have m20 := (h.2.1.1 a ha).1
  have e22 := (h.1.2 a ha).2.1
  intro s
  induction s with
  | zero =>
    intro i fuel hi hf
    obtain ⟨f, rfl⟩ : ∃ f, fuel = f + 1 := ⟨fuel - 1, by omega⟩
    rw [f_X0_gainOfParts_4, e22, if_pos (nI_le (by omega) (by omega)), show i = m a by omega]
  | succ s ih =>
    intro i fuel hi hf
    obtain ⟨f, rfl⟩ : ∃ f, fuel = f + 1 := ⟨fuel - 1, by omega⟩
    have him : i < m a := by omega
    have i20 : inr (nI i) 20 := nI_in (by omega) (by decide)
    have c20 : ix (nI i) = i := nI_clamp (by omega)
    obtain ⟨c1, c2, -⟩ := (h.2.2 a ha).2.2 i him
    have j := ih (i + 1) f (by omega) (by omega)
    have es : sumI (fun i => if wh a i = true then g (it a i) else 0) (i + 1) = sumI (fun i => if wh a i = true then g (it a i) else 0) i + (if wh a i = true then g (it a i) else 0) := rfl
    rw [es] at j
    rw [f_X0_gainOfParts_4, e22, if_neg (nI_ge him (by omega)), chk_p i20, c20, c2]
    cases q : wh a i with
    | false =>
      rw [q, if_neg (by decide)] at j
      rw [if_pos (show b01 false = 0 by decide), f_X0_gainOfParts_35, lt_eq, nI_1]
      exact j
    | true =>
      have hb := ((h.2.1.1 a ha).2 i him q).1
      obtain ⟨k1, k2, -, -⟩ := n12 (show it a i < 12 by omega)
      rw [q, if_pos rfl] at j
      rw [if_neg (show ¬ b01 true = 0 by decide), chk_p i20, c1, chk_p k1, k2, hg i him q, lt_eq, nI_add, f_X0_gainOfParts_35, lt_eq, nI_1]
      exact j
theorem AS.fr {P : Nat → Nat → Nat → Prop} {σ τ : SS} {an : Nat} {m : Nat → Nat} {wh : Nat → Nat → Bool} {it : Nat → Nat → Nat} {W wv : Nat → Nat} (h : AS σ an m wh it W wv) (f : frp P σ τ) (hp : ∀ r i k, PAs r i k → ¬ P r i k) : AS τ an m wh it W wv := by
  have e : ∀ r i k, PAs r i k → τ.1 r i k = σ.1 r i k := fun r i k z => f.1 r i k (hp r i k z)
  refine ⟨h.1.fr f hp, h.2.1, fun a ha => ?_⟩
  obtain ⟨⟨x1, x2, x3⟩, ⟨y1, y2⟩, z⟩ := h.2.2 a ha
  refine ⟨⟨by rw [e 22 a 3 (by unfold PAs; omega)]; exact x1, x2, x3⟩, ⟨by rw [e 22 a 4 (by unfold PAs; omega)]; exact y1, y2⟩, fun i hi => ?_⟩
  rw [e 23 a i (by unfold PAs; omega), e 24 a i (by unfold PAs; omega)]
  exact z i hi
/-- what is known of the gains after depth d, up to assembly a -/
def GP (σ : SS) (an : Nat) (wv W C : Nat → Nat) (d a : Nat) : Prop := ∀ b, b < an → (rk (wiV wv) b < d ∨ (rk (wiV wv) b = d ∧ b < a)) → σ.1 15 0 b = nI (C b - W b) ∧ W b ≤ C b ∧ C b ≤ 500
/-- what the new counts are -/
def FC (an : Nat) (m : Nat → Nat) (wh : Nat → Nat → Bool) (it : Nat → Nat → Nat) (W C : Nat → Nat) (x more : Nat) : Prop := (∀ a, a < an → a ≠ x → C a = min 1000000 (sW m wh it C a)) ∧ C x = min 1000000 (W x + more) ∧ more ≤ 500
theorem room80 {σ : SS} {an : Nat} {m : Nat → Nat} {wh : Nat → Nat → Bool} {it : Nat → Nat → Nat} {W wv : Nat → Nat} (h : AS σ an m wh it W wv) {a : Nat} (ha : a < an) {G : Nat} (hG : G ≤ 100000) {v1 v2 v3 : Int32} {K18 : Int32 → Int32 → Int32 → SS → Option (Int32 × SS)} {K27 : Int32 → Int32 → Int32 → Int32 → SS → Option (Int32 × SS)} : f_X0_hasRoom_80 K18 K27 v1 v2 v3 (nI a) (nI a) (nI G) σ = if W a + G ≤ 500 then K27 v1 v2 v3 (nI (a + 1)) (up σ 15 0 a (nI G)) else some (0, up σ 15 0 a (nI G)) := by
  obtain ⟨r1, r2, r3⟩ := row_at h.1.1 ha
  obtain ⟨⟨x1, x2, -⟩, -, -⟩ := h.2.2 a ha
  have e15 : (up σ 15 0 a (nI G)).1 15 0 a = nI G := by simp only [up_rd, and_self, if_true]
  have e22 : (up σ 15 0 a (nI G)).1 22 a 3 = nI (W a) := by rw [up_rd, if_neg (by omega)]; exact x1
  have hc : nI (W a + G) ≤ (500 : Int32) ↔ W a + G ≤ 500 := nI_leI (b := 500) (by omega) (by decide)
  have r3' : (if ix (nI a) < (up σ 15 0 a (nI G)).2.2 then some (ix (nI a)) else none) = some a := r3
  rw [f_X0_hasRoom_80, chk_p r1, lt_eq, r2] at *
  rw [chk_p r1, lt_eq, r3', oel_s, chk_p r1, e15, e22, nI_add]
  by_cases q : W a + G ≤ 500
  · rw [if_pos (hc.mpr q), if_pos q, f_X0_hasRoom_107, lt_eq, nI_1]
  · rw [if_neg (fun z => q (hc.mp z)), if_neg q]
theorem room27 {an : Nat} {m : Nat → Nat} {wh : Nat → Nat → Bool} {it : Nat → Nat → Nat} {W wv C : Nat → Nat} {x more d : Nat} (hx : x < an) (hd : d < 12) (hC : FC an m wh it W C x more) {K : Int32 → Int32 → Int32 → SS → Option (Int32 × SS)} : ∀ (s a fuel : Nat) (σ : SS), a + s = an → s < fuel → AS σ an m wh it W wv → GP σ an wv W C d a → ∃ σ', fri P15 σ σ' ∧ ((f_X0_hasRoom_27 K fuel (nI x) (nI more) (nI d) (nI a) σ = K (nI x) (nI more) (nI (d + 1)) σ' ∧ GP σ' an wv W C (d + 1) 0) ∨ (f_X0_hasRoom_27 K fuel (nI x) (nI more) (nI d) (nI a) σ = some (0, σ') ∧ ∃ b, b < an ∧ 500 < C b)) := by
  obtain ⟨F1, F2, F3⟩ := hC
  intro s
  induction s with
  | zero =>
    intro a fuel σ ha hf h hg
    obtain ⟨f, rfl⟩ : ∃ f, fuel = f + 1 := ⟨fuel - 1, by omega⟩
    have hn := h.1.1.1
    refine ⟨σ, fri.rf _ _, Or.inl ⟨?_, fun b hb hc => hg b hb (by omega)⟩⟩
    rw [f_X0_hasRoom_27, h.1.1.2.1, if_pos (nI_le (by omega) (by omega)), f_X0_hasRoom_113, lt_eq, nI_1]
  | succ s ih =>
    intro a fuel σ ha hf h hg
    obtain ⟨f, rfl⟩ : ∃ f, fuel = f + 1 := ⟨fuel - 1, by omega⟩
    have hn := h.1.1.1
    have haa : a < an := by omega
    obtain ⟨r1, r2, r3⟩ := row_at h.1.1 haa
    obtain ⟨⟨x1, x2, x3⟩, ⟨y1, y2⟩, z⟩ := h.2.2 a haa
    have hl := h.2.1.rk_an hn haa
    have ek : cex (fun b => (wv a).testBit b) 12 = rk (wiV wv) a := rfl
    have hrk : nI (rk (wiV wv) a) = nI d ↔ rk (wiV wv) a = d := nI_eq (by omega) (by omega)
    have hax : nI a = nI x ↔ a = x := nI_eq (by omega) (by omega)
    have m20 := (h.2.1.1 a haa).1
    -- the step once the gain is known
    have fin : ∀ G : Nat, rk (wiV wv) a = d → G ≤ 100000 → C a = min 1000000 (W a + G) → ∃ σ', fri P15 σ σ' ∧ ((f_X0_hasRoom_80 K (f_X0_hasRoom_27 K f) (nI x) (nI more) (nI d) (nI a) (nI a) (nI G) σ = K (nI x) (nI more) (nI (d + 1)) σ' ∧ GP σ' an wv W C (d + 1) 0) ∨ (f_X0_hasRoom_80 K (f_X0_hasRoom_27 K f) (nI x) (nI more) (nI d) (nI a) (nI a) (nI G) σ = some (0, σ') ∧ ∃ b, b < an ∧ 500 < C b)) := by
      intro G hr hG hCa
      have f1 : fri P15 σ (up σ 15 0 a (nI G)) := fri.up (fri.rf _ _) rfl
      rw [room80 h haa hG]
      by_cases q : W a + G ≤ 500
      · rw [if_pos q]
        obtain ⟨σ', q1, q2⟩ := ih (a + 1) f (up σ 15 0 a (nI G)) (by omega) (by omega) (h.fr f1.p (by intro r i k; unfold PAs P15; omega)) (fun b hb hc => by
          by_cases zz : b = a
          · subst zz
            simp only [up_rd, and_self, if_true]
            refine ⟨?_, by omega, by omega⟩
            rw [show C b - W b = G by omega]
          · rw [up_rd, if_neg (by omega)]
            exact hg b hb (by omega))
        exact ⟨σ', f1.tr q1, q2⟩
      · rw [if_neg q]
        exact ⟨_, f1, Or.inr ⟨rfl, a, haa, by omega⟩⟩
    rw [f_X0_hasRoom_27, h.1.1.2.1, if_neg (nI_ge haa (by omega)), chk_p r1, r3, lt_eq, oel_s, y1, p_bitCount y2, cal_some, ek]
    by_cases q : rk (wiV wv) a = d
    · rw [if_pos (hrk.mpr q)]
      by_cases qx : a = x
      · rw [if_pos (hax.mpr qx)]
        refine fin more q (by omega) ?_
        rw [qx]; exact F2
      · rw [if_neg (fun zz => qx (hax.mp zz)), chk_p r1, r3, lt_eq, oel_s]
        have low : ∀ i, i < m a → wh a i = true → σ.1 15 0 (it a i) = nI (C (it a i) - W (it a i)) ∧ W (it a i) ≤ C (it a i) ∧ C (it a i) ≤ 500 := fun i hi hw => by
          have hlt := h.2.1.rk_lt hn haa hi hw
          exact hg _ ((h.2.1.1 a haa).2 i hi hw).1 (Or.inl (by omega))
        have gl := gop_loop h haa (g := fun b => C b - W b) (fun i hi hw => (low i hi hw).1) (m a) 0 FU (by omega) (by show m a < 5000; omega)
        have e0 : nI (sumI (fun i => if wh a i = true then C (it a i) - W (it a i) else 0) 0) = (0 : Int32) := rfl
        rw [e0, nI_0] at gl
        have gop : f_X0_gainOfParts a σ = some (nI (sumI (fun i => if wh a i = true then C (it a i) - W (it a i) else 0) (m a)), σ) := by
          rw [f_X0_gainOfParts, gl]
        rw [gop, cal_some]
        have gb : sumI (fun i => if wh a i = true then C (it a i) - W (it a i) else 0) (m a) ≤ m a * 500 := sumI_b (fun i hi => by
          cases qw : wh a i with
          | false => simp
          | true =>
            simp only [if_true]
            have := (low i hi qw).2.2
            omega)
        have gb2 : m a * 500 ≤ 20 * 500 := Nat.mul_le_mul_right _ m20
        refine fin _ q (by omega) ?_
        rw [F1 a haa qx]
        congr 1
        have e1 : sW m wh it C a = sumI (fun i => (if wh a i = true then W (it a i) else 1) + (if wh a i = true then C (it a i) - W (it a i) else 0)) (m a) := sumI_cg (fun i hi => by
          cases qw : wh a i with
          | false => rfl
          | true =>
            simp only [if_true]
            have := (low i hi qw).2.1
            omega)
        rw [e1, sumI_add]
        have e2 : sumI (fun i => if wh a i = true then W (it a i) else 1) (m a) = W a := x3.symm
        rw [e2]
    · rw [if_neg (fun zz => q (hrk.mp zz)), f_X0_hasRoom_107, lt_eq, nI_1]
      exact ih (a + 1) f σ (by omega) (by omega) h (fun b hb hc => hg b hb (by
        rcases hc with hc | ⟨hc1, hc2⟩
        · exact Or.inl hc
        · right
          refine ⟨hc1, ?_⟩
          by_cases zz : b = a
          · rw [zz] at hc1; exact absurd hc1 q
          · omega))
theorem room18 {an : Nat} {m : Nat → Nat} {wh : Nat → Nat → Bool} {it : Nat → Nat → Nat} {W wv C : Nat → Nat} {x more : Nat} (hx : x < an) (hC : FC an m wh it W C x more) : ∀ (s d fuel : Nat) (σ : SS), d + s = 12 → s < fuel → AS σ an m wh it W wv → GP σ an wv W C d 0 → ∃ σ', fri P15 σ σ' ∧ ((f_X0_hasRoom_18 fuel (nI x) (nI more) (nI d) σ = some (1, σ') ∧ GP σ' an wv W C 12 0) ∨ (f_X0_hasRoom_18 fuel (nI x) (nI more) (nI d) σ = some (0, σ') ∧ ∃ b, b < an ∧ 500 < C b)) := by
  intro s
  induction s with
  | zero =>
    intro d fuel σ hd hf h hg
    obtain ⟨f, rfl⟩ : ∃ f, fuel = f + 1 := ⟨fuel - 1, by omega⟩
    have : d = 12 := by omega
    subst this
    exact ⟨σ, fri.rf _ _, Or.inl ⟨by rw [f_X0_hasRoom_18, if_pos (by decide)], hg⟩⟩
  | succ s ih =>
    intro d fuel σ hd hf h hg
    obtain ⟨f, rfl⟩ : ∃ f, fuel = f + 1 := ⟨fuel - 1, by omega⟩
    have hn := h.1.1.1
    rw [f_X0_hasRoom_18, if_neg (show ¬ (12 : Int32) ≤ nI d from nI_ge (b := 12) (by omega) (by decide))]
    obtain ⟨σ1, f1, q⟩ := room27 hx (show d < 12 by omega) hC (K := f_X0_hasRoom_18 f) an 0 FU σ (by omega) (by show an < 5000; omega) h hg
    rw [nI_0] at q
    rcases q with ⟨q1, q2⟩ | ⟨q1, q2⟩
    · obtain ⟨σ2, f2, r⟩ := ih (d + 1) f σ1 (by omega) (by omega) (h.fr f1.p (by intro r i k; unfold PAs P15; omega)) q2
      rw [q1]
      exact ⟨σ2, f1.tr f2, r⟩
    · exact ⟨σ1, f1, Or.inr ⟨q1, q2⟩⟩
theorem p_hasRoom {σ : SS} {an : Nat} {m : Nat → Nat} {wh : Nat → Nat → Bool} {it : Nat → Nat → Nat} {W wv C : Nat → Nat} (h : AS σ an m wh it W wv) {x more : Nat} (hx : x < an) (hC : FC an m wh it W C x more) : ∃ σ', fri P15 σ σ' ∧ ((f_X0_hasRoom (nI x) (nI more) σ = some (1, σ') ∧ m x < 20 ∧ ∀ b, b < an → σ'.1 15 0 b = nI (C b - W b) ∧ W b ≤ C b ∧ C b ≤ 500) ∨ (f_X0_hasRoom (nI x) (nI more) σ = some (0, σ') ∧ (m x = 20 ∨ ∃ b, b < an ∧ 500 < C b))) := by
  have hn := h.1.1.1
  obtain ⟨r1, r2, r3⟩ := row_at h.1.1 hx
  have m20 := (h.2.1.1 x hx).1
  have hc : nI (m x) < (20 : Int32) ↔ m x < 20 := nI_ltI (b := 20) (by omega) (by decide)
  rw [f_X0_hasRoom, chk_p r1, r3, lt_eq, oel_s, (h.1.2 x hx).2.1]
  by_cases q : m x < 20
  · rw [if_pos (hc.mpr q)]
    obtain ⟨σ', f1, r⟩ := room18 hx hC 12 0 FU σ rfl (by show 12 < 5000; omega) h (fun b hb hcc => by omega)
    rw [nI_0] at r
    refine ⟨σ', f1, ?_⟩
    rcases r with ⟨q1, q2⟩ | ⟨q1, q2⟩
    · exact Or.inl ⟨q1, q, fun b hb => q2 b hb (Or.inl (by have := h.2.1.rk_an hn hb; omega))⟩
    · exact Or.inr ⟨q1, Or.inr q2⟩
  · rw [if_neg (fun z => q (hc.mp z))]
    exact ⟨σ, fri.rf _ _, Or.inr ⟨rfl, Or.inl (by omega)⟩⟩
