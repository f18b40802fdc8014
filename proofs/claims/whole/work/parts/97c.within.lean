/-! ===== PURE: the bits of what stands within; isWithin ===== -/
theorem nx_and (a b : Nat) : nI a &&& nI b = nI (a &&& b) := by
  apply Int32.toBitVec_inj.1
  show BitVec.ofNat 32 a &&& BitVec.ofNat 32 b = BitVec.ofNat 32 (a &&& b)
  apply BitVec.eq_of_getLsbD_eq
  intro i hi
  simp [hi]
theorem nx_or (a b : Nat) : nI a ||| nI b = nI (a ||| b) := by
  apply Int32.toBitVec_inj.1
  show BitVec.ofNat 32 a ||| BitVec.ofNat 32 b = BitVec.ofNat 32 (a ||| b)
  apply BitVec.eq_of_getLsbD_eq
  intro i hi
  simp [hi]
theorem s_l : ∀ n, n < 32 → ((nI n &&& 31).toBitVec.smod 32).toNat = n := by decide +kernel
theorem bit_at {v b : Nat} (hv : v < 4096) (hb : b < 12) : (nI v >>> (nI b &&& 31)) &&& 1 = b01 (v.testBit b) := by
  rw [pk_shrN (by omega) _ b (s_l b (by omega)), show (1 : Int32) = nI 1 from rfl, nx_and, Nat.and_one_is_mod, Nat.testBit_eq_decide_div_mod_eq]
  have : v / 2 ^ b % 2 = 0 ∨ v / 2 ^ b % 2 = 1 := by omega
  rcases this with q | q
  · rw [q]; rfl
  · rw [q]; rfl
theorem bit_one {b : Nat} (hb : b < 12) : (1 : Int32) <<< (nI b &&& 31) = nI (2 ^ b) := by
  have key : ∀ b, b < 12 → (1 : Int32) <<< (nI b &&& 31) = nI (2 ^ b) := by decide +kernel
  exact key b hb
def bcF (v0 : Int32) : Int32 := (fun x1 => (fun x2 => (fun x3 => (fun x4 => (fun x5 : Int32 => x5 &&& (63 : Int32)) (x4 + (((x4).toUInt32 >>> (((16 : Int32)).toUInt32 &&& Int32.toUInt32 31)).toInt32))) (x3 + (((x3).toUInt32 >>> (((8 : Int32)).toUInt32 &&& Int32.toUInt32 31)).toInt32))) ((x2 + (((x2).toUInt32 >>> (((4 : Int32)).toUInt32 &&& Int32.toUInt32 31)).toInt32)) &&& (252645135 : Int32))) ((x1 &&& (858993459 : Int32)) + ((((x1).toUInt32 >>> (((2 : Int32)).toUInt32 &&& Int32.toUInt32 31)).toInt32) &&& (858993459 : Int32)))) (v0 - ((((v0).toUInt32 >>> (((1 : Int32)).toUInt32 &&& Int32.toUInt32 31)).toInt32) &&& (1431655765 : Int32)))
theorem bc_all : ∀ h, h < 64 → ∀ l, l < 64 → bcF (nI (64 * h + l)) = nI (cex (fun b => (64 * h + l).testBit b) 12) := by decide +kernel
theorem p_bitCount {v : Nat} (hv : v < 4096) (σ : SS) : f_J6_bitCount_0f7a4 (nI v) σ = some (nI (cex (fun b => v.testBit b) 12), σ) := by
  have := bc_all (v / 64) (by omega) (v % 64) (by omega)
  rw [show 64 * (v / 64) + v % 64 = v by omega] at this
  rw [← this]
  rfl
/-- some assembly holds b directly -/
theorem GR.pred {an : Nat} {m : Nat → Nat} {wh : Nat → Nat → Bool} {it : Nat → Nat → Nat} {wi : Nat → Nat → Bool} (h : GR an m wh it wi) (hn : an ≤ 12) : ∀ a, a < an → ∀ b, wi a b = true → ∃ y, (y = a ∨ wi a y = true) ∧ y < an ∧ ∃ i, i < m y ∧ wh y i = true ∧ it y i = b := by
  refine h.ind hn (fun a ha ih b hb => ?_)
  obtain ⟨-, -, i, hi, hw, hc⟩ := h.2 a b ha hb
  rcases hc with hc | hc
  · exact ⟨a, Or.inl rfl, ha, i, hi, hw, hc⟩
  · obtain ⟨y, y1, y2, y3⟩ := ih i hi hw b hc
    refine ⟨y, Or.inr ?_, y2, y3⟩
    obtain ⟨-, g2, g3⟩ := (h.1 a ha).2 i hi hw
    rcases y1 with y1 | y1
    · rw [y1]; exact g2
    · exact g3 y y1
def P86 (r _i _k : Nat) : Prop := r = 86
def HK (σ : SS) (an : Nat) (h : Nat → Bool) : Prop := ∀ b, b < an → σ.1 86 0 b = b01 (h b)
/-- what is held: nothing but what stands within; what was reached -/
def HI (an : Nat) (m : Nat → Nat) (wh : Nat → Nat → Bool) (it : Nat → Nat → Nat) (wi : Nat → Nat → Bool) (x : Nat) (h : Nat → Bool) (t a : Nat) : Prop := h x = true ∧ (∀ b, b < an → h b = true → b = x ∨ wi x b = true) ∧ (∀ b, b < an → (b = x ∨ wi x b = true) → rk wi x ≤ rk wi b + t → h b = true) ∧ ∀ y, y < a → y < an → (y = x ∨ wi x y = true) → rk wi x ≤ rk wi y + t → ∀ i, i < m y → wh y i = true → h (it y i) = true
theorem iw57 {an : Nat} {m : Nat → Nat} {wh : Nat → Nat → Bool} {it : Nat → Nat → Nat} {wi : Nat → Nat → Bool} (hG : GR an m wh it wi) (hn : an ≤ 12) {a : Nat} (ha : a < an) {v1 v3 : Int32} {K34 : Int32 → Int32 → SS → Option (Int32 × SS)} {K45 : Int32 → Int32 → Int32 → SS → Option (Int32 × SS)} : ∀ (s i fuel : Nat) (σ : SS) (h : Nat → Bool), i + s = m a → s < fuel → MI8 σ an m wh it → HK σ an h → ∃ σ' h', f_X8_isWithin_57 K34 K45 fuel v1 v3 (nI a) (nI i) σ = K45 v1 v3 (nI (a + 1)) σ' ∧ HK σ' an h' ∧ (∀ b, b < an → (h b = true → h' b = true) ∧ (h' b = true → h b = true ∨ (h a = true ∧ ∃ j, j < m a ∧ wh a j = true ∧ it a j = b))) ∧ (h a = true → ∀ j, i ≤ j → j < m a → wh a j = true → h' (it a j) = true) ∧ fri P86 σ σ' := by
  obtain ⟨g1, g2, -, -⟩ := n12 (show a < 12 by omega)
  obtain ⟨m20, hgr⟩ := hG.1 a ha
  intro s
  induction s with
  | zero =>
    intro i fuel σ h hi hf hI hH
    obtain ⟨f, rfl⟩ : ∃ f, fuel = f + 1 := ⟨fuel - 1, by omega⟩
    rw [f_X8_isWithin_57, chk_p g1, g2, (hI.2 a ha).1, if_pos (nI_le (by omega) (by omega)), f_X8_isWithin_120, lt_eq, nI_1]
    exact ⟨σ, h, rfl, hH, fun b _ => ⟨id, Or.inl⟩, fun _ j h1 h2 => by omega, fri.rf _ _⟩
  | succ s ih =>
    intro i fuel σ h hi hf hI hH
    obtain ⟨f, rfl⟩ : ∃ f, fuel = f + 1 := ⟨fuel - 1, by omega⟩
    have him : i < m a := by omega
    obtain ⟨n1, n2, n3⟩ := n240 (show a < 12 by omega) (show i < 20 by omega)
    obtain ⟨e83, e84⟩ := (hI.2 a ha).2 i him
    rw [f_X8_isWithin_57, chk_p g1, g2, (hI.2 a ha).1, if_neg (nI_ge him (by omega)), chk_p g1, hH a ha]
    cases qa : h a with
    | false =>
      rw [if_pos (show b01 false = 0 by decide), f_X8_isWithin_120, lt_eq, nI_1]
      exact ⟨σ, h, rfl, hH, fun b _ => ⟨id, Or.inl⟩, fun z => absurd z (by decide), fri.rf _ _⟩
    | true =>
      rw [if_neg (show ¬ b01 true = 0 by decide), n1, chk_p n2, n3, e84]
      cases q : wh a i with
      | false =>
        rw [if_pos (show b01 false = 0 by decide), f_X8_isWithin_114, lt_eq, nI_1]
        obtain ⟨σ', h', r1, r2, r3, r4, r5⟩ := ih (i + 1) f σ h (by omega) (by omega) hI hH
        rw [qa] at r3 r4
        refine ⟨σ', h', r1, r2, r3, fun _ j j1 j2 j3 => ?_, r5⟩
        by_cases z : j = i
        · rw [z, q] at j3
          exact absurd j3 (by decide)
        · exact r4 rfl j (by omega) j2 j3
      | true =>
        have hb := (hgr i him q).1
        obtain ⟨k1, k2, -, -⟩ := n12 (show it a i < 12 by omega)
        have f1 : fri P86 σ (up σ 86 0 (it a i) 1) := fri.up (fri.rf _ _) rfl
        rw [if_neg (show ¬ b01 true = 0 by decide), chk_p n2, e83, chk_p k1, k2, lt_eq, f_X8_isWithin_114, lt_eq, nI_1]
        obtain ⟨σ', h', r1, r2, r3, r4, r5⟩ := ih (i + 1) f (up σ 86 0 (it a i) 1) (fun b => if b = it a i then true else h b) (by omega) (by omega) (hI.fr f1 (by intro r k; unfold P86; omega)) (fun b hbn => by
          by_cases z : b = it a i
          · simp only [if_pos z]
            rw [z]
            simp only [up_rd, and_self, if_true]
            rfl
          · simp only [if_neg z]
            rw [up_rd, if_neg (by omega)]
            exact hH b hbn)
        have ha1 : (fun b => if b = it a i then true else h b) a = true := by
          show (if a = it a i then true else h a) = true
          rw [qa]
          split <;> rfl
        refine ⟨σ', h', r1, r2, fun b hbn => ⟨fun z => (r3 b hbn).1 ?_, fun z => ?_⟩, fun _ j j1 j2 j3 => ?_, f1.tr r5⟩
        · show (if b = it a i then true else h b) = true
          rw [z]
          split <;> rfl
        · rcases (r3 b hbn).2 z with y | ⟨-, y⟩
          · by_cases zz : b = it a i
            · exact Or.inr ⟨rfl, i, him, q, zz.symm⟩
            · simp only [if_neg zz] at y
              exact Or.inl y
          · exact Or.inr ⟨rfl, y⟩
        · by_cases z : j = i
          · rw [z]
            refine (r3 _ hb).1 ?_
            show (if it a i = it a i then true else h (it a i)) = true
            rw [if_pos rfl]
          · exact r4 ha1 j (by omega) j2 j3
theorem iw45 {an : Nat} {m : Nat → Nat} {wh : Nat → Nat → Bool} {it : Nat → Nat → Nat} {wi : Nat → Nat → Bool} (hG : GR an m wh it wi) (hn : an ≤ 12) {x t : Nat} (hx : x < an) {v1 : Int32} {K34 : Int32 → Int32 → SS → Option (Int32 × SS)} : ∀ (s a fuel : Nat) (σ : SS) (h : Nat → Bool), a + s = an → s < fuel → MI8 σ an m wh it → HK σ an h → HI an m wh it wi x h t a → ∃ σ' h', f_X8_isWithin_45 K34 fuel v1 (nI t) (nI a) σ = K34 v1 (nI (t + 1)) σ' ∧ HK σ' an h' ∧ HI an m wh it wi x h' (t + 1) 0 ∧ fri P86 σ σ' := by
  intro s
  induction s with
  | zero =>
    intro a fuel σ h ha hf hI hH hi
    obtain ⟨f, rfl⟩ : ∃ f, fuel = f + 1 := ⟨fuel - 1, by omega⟩
    rw [f_X8_isWithin_45, hI.1, if_pos (nI_le (by omega) (by omega)), f_X8_isWithin_126, lt_eq, nI_1]
    obtain ⟨h1, h2, h3, h4⟩ := hi
    refine ⟨σ, h, rfl, hH, ⟨h1, h2, fun b hb hc hr => ?_, fun y hy => absurd hy (Nat.not_lt_zero _)⟩, fri.rf _ _⟩
    rcases hc with hc | hc
    · rw [hc]; exact h1
    · obtain ⟨y, y1, y2, i, i1, i2, i3⟩ := hG.pred hn x hx b hc
      have := hG.rk_lt hn y2 i1 i2
      rw [i3] at this
      rw [← i3]
      exact h4 y (by omega) y2 y1 (by omega) i i1 i2
  | succ s ih =>
    intro a fuel σ h ha hf hI hH hi
    obtain ⟨f, rfl⟩ : ∃ f, fuel = f + 1 := ⟨fuel - 1, by omega⟩
    have haa : a < an := by omega
    rw [f_X8_isWithin_45, hI.1, if_neg (nI_ge haa (by omega))]
    have hm := (hG.1 a haa).1
    obtain ⟨σ1, h', q1, q2, q3, q4, q5⟩ := iw57 hG hn haa (v1 := v1) (v3 := nI t) (K34 := K34) (K45 := f_X8_isWithin_45 K34 f) (m a) 0 FU σ h (by omega) (by show m a < 5000; omega) hI hH
    rw [nI_0] at q1
    rw [q1]
    obtain ⟨h1, h2, h3, h4⟩ := hi
    have hi' : HI an m wh it wi x h' t (a + 1) := by
      refine ⟨(q3 x hx).1 h1, fun b hb z => ?_, fun b hb hc hr => (q3 b hb).1 (h3 b hb hc hr), fun y hy hyn hc hr i hi1 hw => ?_⟩
      · rcases (q3 b hb).2 z with y | ⟨y, j, j1, j2, j3⟩
        · exact h2 b hb y
        · right
          obtain ⟨-, g2, g3⟩ := (hG.1 a haa).2 j j1 j2
          rw [j3] at g2
          rcases h2 a haa y with z1 | z1
          · rw [← z1]; exact g2
          · -- x holds a, a holds b
            have trans : ∀ c, c < an → ∀ d, wi c d = true → d < an → ∀ e, wi d e = true → wi c e = true := by
              refine hG.ind hn (fun c hc ihc d hd hdn e he => ?_)
              obtain ⟨-, -, i, i1, i2, i3⟩ := hG.2 c d hc hd
              obtain ⟨g4, g5, g6⟩ := (hG.1 c hc).2 i i1 i2
              rcases i3 with i3 | i3
              · rw [i3] at g6; exact g6 e he
              · exact g6 e (ihc i i1 i2 d i3 hdn e he)
            exact trans x hx a z1 haa b g2
      · have hb := ((hG.1 y hyn).2 i hi1 hw).1
        by_cases z : y = a
        · subst z
          exact q4 (h3 y hyn hc hr) i (Nat.zero_le _) hi1 hw
        · exact (q3 _ hb).1 (h4 y (by omega) hyn hc hr i hi1 hw)
    obtain ⟨σ2, h2', r1, r2, r3, r4⟩ := ih (a + 1) f σ1 h' (by omega) (by omega) (hI.fr q5 (by intro r k; unfold P86; omega)) q2 hi'
    exact ⟨σ2, h2', r1, r2, r3, q5.tr r4⟩
theorem iw34 {an : Nat} {m : Nat → Nat} {wh : Nat → Nat → Bool} {it : Nat → Nat → Nat} {wi : Nat → Nat → Bool} (hG : GR an m wh it wi) (hn : an ≤ 12) {x : Nat} (hx : x < an) {v1 : Int32} : ∀ (s t fuel : Nat) (σ : SS) (h : Nat → Bool), t + s = an → s < fuel → MI8 σ an m wh it → HK σ an h → HI an m wh it wi x h t 0 → ∃ σ' h', f_X8_isWithin_34 fuel v1 (nI t) σ = f_X8_isWithin_132 v1 σ' ∧ HK σ' an h' ∧ HI an m wh it wi x h' an 0 ∧ fri P86 σ σ' := by
  intro s
  induction s with
  | zero =>
    intro t fuel σ h ht hf hI hH hi
    obtain ⟨f, rfl⟩ : ∃ f, fuel = f + 1 := ⟨fuel - 1, by omega⟩
    rw [f_X8_isWithin_34, hI.1, if_pos (nI_le (by omega) (by omega))]
    exact ⟨σ, h, rfl, hH, by rw [show an = t by omega] at hi ⊢; exact hi, fri.rf _ _⟩
  | succ s ih =>
    intro t fuel σ h ht hf hI hH hi
    obtain ⟨f, rfl⟩ : ∃ f, fuel = f + 1 := ⟨fuel - 1, by omega⟩
    rw [f_X8_isWithin_34, hI.1, if_neg (nI_ge (by omega) (by omega))]
    obtain ⟨σ1, h1, q1, q2, q3, q4⟩ := iw45 hG hn (t := t) hx (v1 := v1) (K34 := f_X8_isWithin_34 f) an 0 FU σ h (by omega) (by show an < 5000; omega) hI hH hi
    obtain ⟨σ2, h2, r1, r2, r3, r4⟩ := ih (t + 1) f σ1 h1 (by omega) (by omega) (hI.fr q4 (by intro r k; unfold P86; omega)) q2 q3
    rw [nI_0] at q1
    exact ⟨σ2, h2, q1.trans r1, r2, r3, q4.tr r4⟩
theorem iw2 {an : Nat} {m : Nat → Nat} {wh : Nat → Nat → Bool} {it : Nat → Nat → Nat} (hn : an ≤ 12) {x : Nat} (hx : x < an) {v1 : Int32} : ∀ (s t fuel : Nat) (σ : SS), t + s = an → s < fuel → MI8 σ an m wh it → (∀ b, b < t → σ.1 86 0 b = b01 (decide (b = x))) → ∃ σ', f_X8_isWithin_2 fuel v1 (nI x) (nI t) σ = f_X8_isWithin_32 v1 σ' ∧ HK σ' an (fun b => decide (b = x)) ∧ fri P86 σ σ' := by
  intro s
  induction s with
  | zero =>
    intro t fuel σ ht hf hI hb
    obtain ⟨f, rfl⟩ : ∃ f, fuel = f + 1 := ⟨fuel - 1, by omega⟩
    rw [f_X8_isWithin_2, hI.1, if_pos (nI_le (by omega) (by omega))]
    exact ⟨σ, rfl, fun b h => hb b (by omega), fri.rf _ _⟩
  | succ s ih =>
    intro t fuel σ ht hf hI hb
    obtain ⟨f, rfl⟩ : ∃ f, fuel = f + 1 := ⟨fuel - 1, by omega⟩
    obtain ⟨g1, g2, -, -⟩ := n12 (show t < 12 by omega)
    have hc : nI t = nI x ↔ t = x := nI_eq (by omega) (by omega)
    have f1 : fri P86 σ (up σ 86 0 t (b01 (decide (t = x)))) := fri.up (fri.rf _ _) rfl
    have e25 : ∀ u : Int32, (u = 0 ∨ u = 1) → f_X8_isWithin_25 (f_X8_isWithin_2 f) v1 (nI x) (nI t) (nI t) u σ = f_X8_isWithin_2 f v1 (nI x) (nI (t + 1)) (up σ 86 0 t u) := by
      intro u hu
      rw [f_X8_isWithin_25, chk_p hu, chk_p g1, g2, lt_eq, lt_eq, nI_1]
    have run : f_X8_isWithin_2 (f + 1) v1 (nI x) (nI t) σ = f_X8_isWithin_2 f v1 (nI x) (nI (t + 1)) (up σ 86 0 t (b01 (decide (t = x)))) := by
      rw [f_X8_isWithin_2, hI.1, if_neg (nI_ge (by omega) (by omega))]
      by_cases q : t = x
      · rw [if_pos (hc.mpr q), e25 1 (Or.inr rfl), decide_eq_true q]
        rfl
      · rw [if_neg (fun z => q (hc.mp z)), e25 0 (Or.inl rfl), decide_eq_false q]
        rfl
    rw [run]
    obtain ⟨σ', q1, q2, q3⟩ := ih (t + 1) f (up σ 86 0 t (b01 (decide (t = x)))) (by omega) (by omega) (hI.fr f1 (by intro r k; unfold P86; omega)) (fun b h => by
      by_cases z : b = t
      · rw [z]
        simp only [up_rd, and_self, if_true]
      · rw [up_rd, if_neg (by omega)]
        exact hb b (by omega))
    exact ⟨σ', q1, q2, f1.tr q3⟩
theorem p_isWithin8 {σ : SS} {an : Nat} {m : Nat → Nat} {wh : Nat → Nat → Bool} {it : Nat → Nat → Nat} {wi : Nat → Nat → Bool} (hG : GR an m wh it wi) (hn : an ≤ 12) (hI : MI8 σ an m wh it) {y x : Nat} (hy : y < an) (hx : x < an) : ∃ σ', f_X8_isWithin (nI y) (nI x) σ = some (b01 (decide (y = x) || wi x y), σ') ∧ fri P86 σ σ' := by
  obtain ⟨σ1, a1, a2, a3⟩ := iw2 (m := m) (wh := wh) (it := it) hn hx (v1 := nI y) an 0 FU σ (by omega) (by show an < 5000; omega) hI (fun b h => absurd h (Nat.not_lt_zero _))
  obtain ⟨σ2, h, b1, b2, b3, b4⟩ := iw34 hG hn hx (v1 := nI y) an 0 FU σ1 _ (by omega) (by show an < 5000; omega) (hI.fr a3 (by intro r k; unfold P86; omega)) a2 ⟨decide_eq_true rfl, fun b _ z => Or.inl (of_decide_eq_true z), fun b hb hc hr => by
    rcases hc with hc | hc
    · exact decide_eq_true hc
    · obtain ⟨g1, g2, i, i1, i2, i3⟩ := hG.2 x b hx hc
      exfalso
      have lt : rk wi b < rk wi x := by
        have hlt := hG.rk_lt hn hx i1 i2
        rcases i3 with i3 | i3
        · rw [i3] at hlt; exact hlt
        · have hi := ((hG.1 x hx).2 i i1 i2).1
          have all : ∀ c, c < an → ∀ d, wi c d = true → rk wi d < rk wi c := by
            refine hG.ind hn (fun c hcn ih d hd => ?_)
            obtain ⟨-, -, j, j1, j2, j3⟩ := hG.2 c d hcn hd
            have hlt := hG.rk_lt hn hcn j1 j2
            rcases j3 with j3 | j3
            · rw [j3] at hlt; exact hlt
            · exact Nat.lt_trans (ih j j1 j2 d j3) hlt
          exact Nat.lt_trans (all _ hi b i3) hlt
      omega, fun y hy => absurd hy (Nat.not_lt_zero _)⟩
  rw [nI_0] at a1 b1
  obtain ⟨g1, g2, -, -⟩ := n12 (show y < 12 by omega)
  have hv : h y = (decide (y = x) || wi x y) := by
    obtain ⟨h1, h2, h3, -⟩ := b3
    have hr := hG.rk_an hn hx
    cases q : h y with
    | true =>
      rcases h2 y hy q with z | z
      · rw [decide_eq_true z]; rfl
      · rw [z, Bool.or_true]
    | false =>
      have n1 : ¬ y = x := fun z => by rw [z, h1] at q; exact absurd q (by decide)
      have n2 : wi x y = false := by
        cases z : wi x y with
        | false => rfl
        | true => rw [h3 y hy (Or.inr z) (by omega)] at q; exact absurd q (by decide)
      rw [decide_eq_false n1, n2]
      rfl
  refine ⟨σ2, ?_, a3.tr b4⟩
  rw [f_X8_isWithin, a1, f_X8_isWithin_32, b1, f_X8_isWithin_132, chk_p g1, g2, b2 y hy, hv, chk_p]
  cases (decide (y = x) || wi x y)
  · exact Or.inl rfl
  · exact Or.inr rfl
