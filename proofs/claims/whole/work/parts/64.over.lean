/-! ===== PURE: two shapes that no line parts have a shape in common ===== -/
theorem fit_cg {e e' T : Nat → Int} (h : Fit e T) (he : ∀ k, k < 8 → e k = e' k) : Fit e' T := ⟨h.1, h.2.1, fun k hk => by rw [← he k hk]; exact h.2.2.1 k hk, fun k hk => by rw [← he k hk]; exact h.2.2.2 k hk⟩
theorem fit_lower {e T : Nat → Int} (h : Fit e T) {w : Nat} {c : Int} (hw : T w ≤ 2 * c) : Fit (updz e w (min (e w) c)) T := by
  refine ⟨h.1, h.2.1, fun k hk => ?_, fun k hk => ?_⟩
  · by_cases q : k = w
    · subst q
      have := h.2.2.1 k hk
      simp only [updz, if_true]
      omega
    · simp only [updz, if_neg q]
      exact h.2.2.1 k hk
  · by_cases q : k = w
    · subst q
      have := h.2.2.1 k hk
      rcases h.2.2.2 k hk with g | g
      · simp only [updz, if_true]
        left
        omega
      · exact Or.inr g
    · simp only [updz, if_neg q]
      exact h.2.2.2 k hk
/-- shapes that no line parts -/
def Ovl (T B : Nat → Int) : Prop := ∀ k, k < 8 → 0 < T k + B (opp k)
theorem ovl_cut0 {e T E B : Nat → Int} (h : Fit e T) (hb : Fit E B) (hp : Ovl T B) (hB : B 0 % 2 = 0) : Ovl (cutT T 0 (B 0)) B := by
  obtain ⟨v2, v3, v6, v7⟩ := fit_even h
  have a := of8 h.1
  have b := of8 hb.1
  have bw := hb.2.1
  have p := of8 hp
  clear h hb hp
  simp only [ld] at a b
  simp (config := { decide := true }) only [opp] at p
  obtain ⟨a0, a1, a2, a3, a4, a5, a6, a7⟩ := a
  obtain ⟨b0, b1, b2, b3, b4, b5, b6, b7⟩ := b
  obtain ⟨p0, p1, p2, p3, p4, p5, p6, p7⟩ := p
  unfold Ovl
  apply all8 <;> simp (config := { decide := true }) only [opp, cutT] <;> omega
theorem ovl_cut1 {e T E B : Nat → Int} (h : Fit e T) (hb : Fit E B) (hp : Ovl T B) (hB : B 1 % 2 = 0) : Ovl (cutT T 1 (B 1)) B := by
  obtain ⟨v2, v3, v6, v7⟩ := fit_even h
  have a := of8 h.1
  have b := of8 hb.1
  have bw := hb.2.1
  have p := of8 hp
  clear h hb hp
  simp only [ld] at a b
  simp (config := { decide := true }) only [opp] at p
  obtain ⟨a0, a1, a2, a3, a4, a5, a6, a7⟩ := a
  obtain ⟨b0, b1, b2, b3, b4, b5, b6, b7⟩ := b
  obtain ⟨p0, p1, p2, p3, p4, p5, p6, p7⟩ := p
  unfold Ovl
  apply all8 <;> simp (config := { decide := true }) only [opp, cutT] <;> omega
theorem ovl_cut2 {e T E B : Nat → Int} (h : Fit e T) (hb : Fit E B) (hp : Ovl T B) (hB : B 2 % 2 = 0) : Ovl (cutT T 2 (B 2)) B := by
  obtain ⟨v2, v3, v6, v7⟩ := fit_even h
  have a := of8 h.1
  have b := of8 hb.1
  have bw := hb.2.1
  have p := of8 hp
  clear h hb hp
  simp only [ld] at a b
  simp (config := { decide := true }) only [opp] at p
  obtain ⟨a0, a1, a2, a3, a4, a5, a6, a7⟩ := a
  obtain ⟨b0, b1, b2, b3, b4, b5, b6, b7⟩ := b
  obtain ⟨p0, p1, p2, p3, p4, p5, p6, p7⟩ := p
  unfold Ovl
  apply all8 <;> simp (config := { decide := true }) only [opp, cutT] <;> omega
theorem ovl_cut3 {e T E B : Nat → Int} (h : Fit e T) (hb : Fit E B) (hp : Ovl T B) (hB : B 3 % 2 = 0) : Ovl (cutT T 3 (B 3)) B := by
  obtain ⟨v2, v3, v6, v7⟩ := fit_even h
  have a := of8 h.1
  have b := of8 hb.1
  have bw := hb.2.1
  have p := of8 hp
  clear h hb hp
  simp only [ld] at a b
  simp (config := { decide := true }) only [opp] at p
  obtain ⟨a0, a1, a2, a3, a4, a5, a6, a7⟩ := a
  obtain ⟨b0, b1, b2, b3, b4, b5, b6, b7⟩ := b
  obtain ⟨p0, p1, p2, p3, p4, p5, p6, p7⟩ := p
  unfold Ovl
  apply all8 <;> simp (config := { decide := true }) only [opp, cutT] <;> omega
theorem ovl_cut4 {e T E B : Nat → Int} (h : Fit e T) (hb : Fit E B) (hp : Ovl T B) (hB : B 4 % 2 = 0) : Ovl (cutT T 4 (B 4)) B := by
  obtain ⟨v2, v3, v6, v7⟩ := fit_even h
  have a := of8 h.1
  have b := of8 hb.1
  have bw := hb.2.1
  have p := of8 hp
  clear h hb hp
  simp only [ld] at a b
  simp (config := { decide := true }) only [opp] at p
  obtain ⟨a0, a1, a2, a3, a4, a5, a6, a7⟩ := a
  obtain ⟨b0, b1, b2, b3, b4, b5, b6, b7⟩ := b
  obtain ⟨p0, p1, p2, p3, p4, p5, p6, p7⟩ := p
  unfold Ovl
  apply all8 <;> simp (config := { decide := true }) only [opp, cutT] <;> omega
theorem ovl_cut5 {e T E B : Nat → Int} (h : Fit e T) (hb : Fit E B) (hp : Ovl T B) (hB : B 5 % 2 = 0) : Ovl (cutT T 5 (B 5)) B := by
  obtain ⟨v2, v3, v6, v7⟩ := fit_even h
  have a := of8 h.1
  have b := of8 hb.1
  have bw := hb.2.1
  have p := of8 hp
  clear h hb hp
  simp only [ld] at a b
  simp (config := { decide := true }) only [opp] at p
  obtain ⟨a0, a1, a2, a3, a4, a5, a6, a7⟩ := a
  obtain ⟨b0, b1, b2, b3, b4, b5, b6, b7⟩ := b
  obtain ⟨p0, p1, p2, p3, p4, p5, p6, p7⟩ := p
  unfold Ovl
  apply all8 <;> simp (config := { decide := true }) only [opp, cutT] <;> omega
theorem ovl_cut6 {e T E B : Nat → Int} (h : Fit e T) (hb : Fit E B) (hp : Ovl T B) (hB : B 6 % 2 = 0) : Ovl (cutT T 6 (B 6)) B := by
  obtain ⟨v2, v3, v6, v7⟩ := fit_even h
  have a := of8 h.1
  have b := of8 hb.1
  have bw := hb.2.1
  have p := of8 hp
  clear h hb hp
  simp only [ld] at a b
  simp (config := { decide := true }) only [opp] at p
  obtain ⟨a0, a1, a2, a3, a4, a5, a6, a7⟩ := a
  obtain ⟨b0, b1, b2, b3, b4, b5, b6, b7⟩ := b
  obtain ⟨p0, p1, p2, p3, p4, p5, p6, p7⟩ := p
  unfold Ovl
  apply all8 <;> simp (config := { decide := true }) only [opp, cutT] <;> omega
theorem ovl_cut7 {e T E B : Nat → Int} (h : Fit e T) (hb : Fit E B) (hp : Ovl T B) (hB : B 7 % 2 = 0) : Ovl (cutT T 7 (B 7)) B := by
  obtain ⟨v2, v3, v6, v7⟩ := fit_even h
  have a := of8 h.1
  have b := of8 hb.1
  have bw := hb.2.1
  have p := of8 hp
  clear h hb hp
  simp only [ld] at a b
  simp (config := { decide := true }) only [opp] at p
  obtain ⟨a0, a1, a2, a3, a4, a5, a6, a7⟩ := a
  obtain ⟨b0, b1, b2, b3, b4, b5, b6, b7⟩ := b
  obtain ⟨p0, p1, p2, p3, p4, p5, p6, p7⟩ := p
  unfold Ovl
  apply all8 <;> simp (config := { decide := true }) only [opp, cutT] <;> omega
theorem ovl_cut {e T E B : Nat → Int} (h : Fit e T) (hb : Fit E B) (hp : Ovl T B) : ∀ w, w < 8 → B w % 2 = 0 → Ovl (cutT T w (B w)) B := all8 (ovl_cut0 h hb hp) (ovl_cut1 h hb hp) (ovl_cut2 h hb hp) (ovl_cut3 h hb hp) (ovl_cut4 h hb hp) (ovl_cut5 h hb hp) (ovl_cut6 h hb hp) (ovl_cut7 h hb hp)
theorem cutT_le (T : Nat → Int) {C : Int} : ∀ w, w < 8 → C ≤ T w → ∀ k, k < 8 → cutT T w C k ≤ T k := by
  apply all8 <;> intro g <;> apply all8 <;> simp only [cutT] <;> omega
theorem cutT_w (T : Nat → Int) (C : Int) : ∀ w, w < 8 → cutT T w C w = C := by
  apply all8 <;> rfl
/-- one more of B's bounds -/
theorem ovl_step {e T E B : Nat → Int} (h : Fit e T) (hb : Fit E B) (hp : Ovl T B) {w : Nat} (hw : w < 8) (hE : B w = 2 * E w ∨ T w ≤ B w) : ∃ T', Fit (updz e w (min (e w) (E w))) T' ∧ Ovl T' B ∧ (∀ k, k < 8 → T' k ≤ T k) ∧ T' w ≤ B w := by
  by_cases q : T w ≤ B w
  · have := hb.2.2.1 w hw
    exact ⟨T, fit_lower h (by omega), hp, fun _ _ => Int.le_refl _, q⟩
  · have hE : B w = 2 * E w := by
      rcases hE with g | g
      · exact g
      · exact absurd g q
    have hT := h.2.2.1 w hw
    have ho : opp w < 8 := opp_lt w hw
    have hoo : opp (opp w) = w := opp_opp w hw
    have hp1 := hp (opp w) ho
    rw [hoo] at hp1
    have f := fit_cut h (c := E w) w hw (by omega) (by omega)
    refine ⟨cutT T w (B w), ?_, ovl_cut h hb hp w hw (by omega), cutT_le T w hw (by omega), ?_⟩
    · rw [hE]
      refine fit_cg f (fun k hk => ?_)
      unfold updz
      by_cases g : k = w
      · rw [if_pos g, if_pos g]
        omega
      · rw [if_neg g, if_neg g]
    · rw [cutT_w T _ w hw]
      exact Int.le_refl _
/-- whole bounds of reaches -/
def Ez (R : Nat → Int) (k : Nat) : Int := (R k + 1) / 2
def Good (R : Nat → Int) : Prop := Fit (Ez R) R
theorem ovl_fit {E1 R1 R2 : Nat → Int} (h1 : Fit E1 R1) (h2 : Good R2) (ho : Ovl R1 R2) : ∃ T, Fit (fun k => min (E1 k) (Ez R2 k)) T := by
  obtain ⟨v2, v3, v6, v7⟩ := fit_even h2
  have d := of8 h2.2.2.2
  obtain ⟨d0, d1, d2, d3, d4, d5, d6, d7⟩ := d
  have g2 : R2 2 = 2 * Ez R2 2 := by unfold Ez; omega
  have g3 : R2 3 = 2 * Ez R2 3 := by unfold Ez; omega
  have g6 : R2 6 = 2 * Ez R2 6 := by unfold Ez; omega
  have g7 : R2 7 = 2 * Ez R2 7 := by unfold Ez; omega
  obtain ⟨Ta, fa, oa, la, wa⟩ := ovl_step h1 h2 ho (w := 2) (by decide) (Or.inl g2)
  obtain ⟨Tb, fb, ob, lb, wb⟩ := ovl_step fa h2 oa (w := 3) (by decide) (Or.inl g3)
  obtain ⟨Tc, fc, oc, lc, wc⟩ := ovl_step fb h2 ob (w := 6) (by decide) (Or.inl g6)
  obtain ⟨Td, fd, od, le, wd⟩ := ovl_step fc h2 oc (w := 7) (by decide) (Or.inl g7)
  have k2 : Td 2 ≤ R2 2 := by have := lb 2 (by decide); have := lc 2 (by decide); have := le 2 (by decide); omega
  have k3 : Td 3 ≤ R2 3 := by have := lc 3 (by decide); have := le 3 (by decide); omega
  have k6 : Td 6 ≤ R2 6 := by have := le 6 (by decide); omega
  clear la lb lc le wa wb wc
  obtain ⟨Te, f0, o0, l0, w0⟩ := ovl_step fd h2 od (w := 0) (by decide) (by
    rcases d0 with q | q
    · exact Or.inl q
    · right
      have := fd.1 0 (by decide)
      simp only [ld] at this q
      omega)
  have m2 := l0 2 (by decide)
  have m3 := l0 3 (by decide)
  have m6 := l0 6 (by decide)
  have m7 := l0 7 (by decide)
  obtain ⟨Tf, f1, o1, l1, w1⟩ := ovl_step f0 h2 o0 (w := 1) (by decide) (by
    rcases d1 with q | q
    · exact Or.inl q
    · right
      have := f0.1 1 (by decide)
      simp only [ld] at this q
      omega)
  have n2 := l1 2 (by decide)
  have n3 := l1 3 (by decide)
  have n6 := l1 6 (by decide)
  have n7 := l1 7 (by decide)
  obtain ⟨Tg, f4, o4, l4, w4⟩ := ovl_step f1 h2 o1 (w := 4) (by decide) (by
    rcases d4 with q | q
    · exact Or.inl q
    · right
      have := f1.1 4 (by decide)
      simp only [ld] at this q
      omega)
  have q3 := l4 3 (by decide)
  have q6 := l4 6 (by decide)
  obtain ⟨Th, f5, o5, l5, w5⟩ := ovl_step f4 h2 o4 (w := 5) (by decide) (by
    rcases d5 with q | q
    · exact Or.inl q
    · right
      have := f4.1 5 (by decide)
      simp only [ld] at this q
      omega)
  refine ⟨Th, fit_cg f5 ?_⟩
  apply all8 <;> simp (config := { decide := true }) only [updz, if_true, if_false]

