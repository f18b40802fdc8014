/-! ===== PURE: what a cut leaves ===== -/
/-- the reaches of what measures at most C in direction w -/
def cutT (T : Nat → Int) (w : Nat) (C : Int) (k : Nat) : Int := match w with
  | 0 => (match k with
    | 0 => C
    | 1 => min (T 1) (C + T 7)
    | 2 => min (T 2) (min (C + T 1) (2 * C + T 7))
    | 3 => min (T 3) (min (C + T 5) (2 * C + T 6))
    | 4 => T 4
    | 5 => min (T 5) (C + T 6)
    | 6 => T 6
    | _ => T 7)
  | 1 => (match k with
    | 0 => min (T 0) (C + T 3)
    | 1 => C
    | 2 => min (T 2) (min (C + T 0) (2 * C + T 3))
    | 3 => T 3
    | 4 => min (T 4) (C + T 6)
    | 5 => T 5
    | 6 => T 6
    | _ => min (T 7) (min (C + T 4) (2 * C + T 6)))
  | 2 => (match k with
    | 0 => min (T 0) (min ((C + T 3) / 2) (C + T 5))
    | 1 => min (T 1) (min ((C + T 7) / 2) (C + T 4))
    | 2 => C
    | 3 => min (T 3) (C + 2 * T 5)
    | 4 => T 4
    | 5 => T 5
    | 6 => T 6
    | _ => min (T 7) (C + 2 * T 4))
  | 3 => (match k with
    | 0 => min (T 0) (min ((C + T 2) / 2) (C + T 1))
    | 1 => T 1
    | 2 => min (T 2) (C + 2 * T 1)
    | 3 => C
    | 4 => T 4
    | 5 => min (T 5) (min ((C + T 6) / 2) (C + T 4))
    | 6 => min (T 6) (C + 2 * T 4)
    | _ => T 7)
  | 4 => (match k with
    | 0 => T 0
    | 1 => min (T 1) (C + T 2)
    | 2 => T 2
    | 3 => T 3
    | 4 => C
    | 5 => min (T 5) (C + T 3)
    | 6 => min (T 6) (min (C + T 5) (2 * C + T 3))
    | _ => min (T 7) (min (C + T 1) (2 * C + T 2)))
  | 5 => (match k with
    | 0 => min (T 0) (C + T 2)
    | 1 => T 1
    | 2 => T 2
    | 3 => min (T 3) (min (C + T 0) (2 * C + T 2))
    | 4 => min (T 4) (C + T 7)
    | 5 => C
    | 6 => min (T 6) (min (C + T 4) (2 * C + T 7))
    | _ => T 7)
  | 6 => (match k with
    | 0 => T 0
    | 1 => T 1
    | 2 => T 2
    | 3 => min (T 3) (C + 2 * T 0)
    | 4 => min (T 4) (min ((C + T 7) / 2) (C + T 1))
    | 5 => min (T 5) (min ((C + T 3) / 2) (C + T 0))
    | 6 => C
    | _ => min (T 7) (C + 2 * T 1))
  | _ => (match k with
    | 0 => T 0
    | 1 => min (T 1) (min ((C + T 2) / 2) (C + T 0))
    | 2 => min (T 2) (C + 2 * T 0)
    | 3 => T 3
    | 4 => min (T 4) (min ((C + T 6) / 2) (C + T 5))
    | 5 => T 5
    | 6 => min (T 6) (C + 2 * T 5)
    | _ => C)
def updz (e : Nat → Int) (w : Nat) (c : Int) : Nat → Int := fun k => if k = w then c else e k
theorem fit_cut0 {e T : Nat → Int} (h : Fit e T) {c : Int} (h1 : -T 4 < 2 * c) (h2 : 2 * c < T 0) : Fit (updz e 0 c) (cutT T 0 (2 * c)) := by
  obtain ⟨v2, v3, v6, v7⟩ := fit_even h
  obtain ⟨a, ww, b, d⟩ := h
  have a := of8 a
  have b := of8 b
  have d := of8 d
  simp only [ld] at a d
  obtain ⟨a0, a1, a2, a3, a4, a5, a6, a7⟩ := a
  obtain ⟨b0, b1, b2, b3, b4, b5, b6, b7⟩ := b
  obtain ⟨d0, d1, d2, d3, d4, d5, d6, d7⟩ := d
  refine ⟨?_, ?_, ?_, ?_⟩
  · clear b0 b1 b2 b3 b4 b5 b6 b7 d0 d1 d2 d3 d4 d5 d6 d7
    apply all8 <;> simp only [ld, cutT] <;> omega
  · clear b0 b1 b2 b3 b4 b5 b6 b7 d0 d1 d2 d3 d4 d5 d6 d7
    refine ⟨?_, ?_, ?_, ?_⟩ <;> simp only [cutT] <;> omega
  · clear d0 d1 d2 d3 d4 d5 d6 d7
    apply all8 <;> simp (config := { decide := true }) only [cutT, updz, if_true, if_false] <;> omega
  · clear b0 b1 b2 b3 b4 b5 b6 b7
    apply all8
    · exact Or.inl rfl
    · clear d0 d2 d3 d4 d5 d6 d7
      simp (config := { decide := true }) only [ld, cutT, updz, if_true, if_false]
      omega
    · clear d0 d1 d3 d4 d5 d6 d7
      simp (config := { decide := true }) only [ld, cutT, updz, if_true, if_false]
      omega
    · clear d0 d1 d2 d4 d5 d6 d7
      simp (config := { decide := true }) only [ld, cutT, updz, if_true, if_false]
      omega
    · clear d0 d1 d2 d3 d5 d6 d7
      simp (config := { decide := true }) only [ld, cutT, updz, if_true, if_false]
      omega
    · clear d0 d1 d2 d3 d4 d6 d7
      simp (config := { decide := true }) only [ld, cutT, updz, if_true, if_false]
      omega
    · clear d0 d1 d2 d3 d4 d5 d7
      simp (config := { decide := true }) only [ld, cutT, updz, if_true, if_false]
      omega
    · clear d0 d1 d2 d3 d4 d5 d6
      simp (config := { decide := true }) only [ld, cutT, updz, if_true, if_false]
      omega
theorem fit_cut1 {e T : Nat → Int} (h : Fit e T) {c : Int} (h1 : -T 5 < 2 * c) (h2 : 2 * c < T 1) : Fit (updz e 1 c) (cutT T 1 (2 * c)) := by
  obtain ⟨v2, v3, v6, v7⟩ := fit_even h
  obtain ⟨a, ww, b, d⟩ := h
  have a := of8 a
  have b := of8 b
  have d := of8 d
  simp only [ld] at a d
  obtain ⟨a0, a1, a2, a3, a4, a5, a6, a7⟩ := a
  obtain ⟨b0, b1, b2, b3, b4, b5, b6, b7⟩ := b
  obtain ⟨d0, d1, d2, d3, d4, d5, d6, d7⟩ := d
  refine ⟨?_, ?_, ?_, ?_⟩
  · clear b0 b1 b2 b3 b4 b5 b6 b7 d0 d1 d2 d3 d4 d5 d6 d7
    apply all8 <;> simp only [ld, cutT] <;> omega
  · clear b0 b1 b2 b3 b4 b5 b6 b7 d0 d1 d2 d3 d4 d5 d6 d7
    refine ⟨?_, ?_, ?_, ?_⟩ <;> simp only [cutT] <;> omega
  · clear d0 d1 d2 d3 d4 d5 d6 d7
    apply all8 <;> simp (config := { decide := true }) only [cutT, updz, if_true, if_false] <;> omega
  · clear b0 b1 b2 b3 b4 b5 b6 b7
    apply all8
    · clear d1 d2 d3 d4 d5 d6 d7
      simp (config := { decide := true }) only [ld, cutT, updz, if_true, if_false]
      omega
    · exact Or.inl rfl
    · clear d0 d1 d3 d4 d5 d6 d7
      simp (config := { decide := true }) only [ld, cutT, updz, if_true, if_false]
      omega
    · clear d0 d1 d2 d4 d5 d6 d7
      simp (config := { decide := true }) only [ld, cutT, updz, if_true, if_false]
      omega
    · clear d0 d1 d2 d3 d5 d6 d7
      simp (config := { decide := true }) only [ld, cutT, updz, if_true, if_false]
      omega
    · clear d0 d1 d2 d3 d4 d6 d7
      simp (config := { decide := true }) only [ld, cutT, updz, if_true, if_false]
      omega
    · clear d0 d1 d2 d3 d4 d5 d7
      simp (config := { decide := true }) only [ld, cutT, updz, if_true, if_false]
      omega
    · clear d0 d1 d2 d3 d4 d5 d6
      simp (config := { decide := true }) only [ld, cutT, updz, if_true, if_false]
      omega
theorem fit_cut2 {e T : Nat → Int} (h : Fit e T) {c : Int} (h1 : -T 6 < 2 * c) (h2 : 2 * c < T 2) : Fit (updz e 2 c) (cutT T 2 (2 * c)) := by
  obtain ⟨v2, v3, v6, v7⟩ := fit_even h
  obtain ⟨a, ww, b, d⟩ := h
  have a := of8 a
  have b := of8 b
  have d := of8 d
  simp only [ld] at a d
  obtain ⟨a0, a1, a2, a3, a4, a5, a6, a7⟩ := a
  obtain ⟨b0, b1, b2, b3, b4, b5, b6, b7⟩ := b
  obtain ⟨d0, d1, d2, d3, d4, d5, d6, d7⟩ := d
  refine ⟨?_, ?_, ?_, ?_⟩
  · clear b0 b1 b2 b3 b4 b5 b6 b7 d0 d1 d2 d3 d4 d5 d6 d7
    apply all8 <;> simp only [ld, cutT] <;> omega
  · clear b0 b1 b2 b3 b4 b5 b6 b7 d0 d1 d2 d3 d4 d5 d6 d7
    refine ⟨?_, ?_, ?_, ?_⟩ <;> simp only [cutT] <;> omega
  · clear d0 d1 d2 d3 d4 d5 d6 d7
    apply all8 <;> simp (config := { decide := true }) only [cutT, updz, if_true, if_false] <;> omega
  · clear b0 b1 b2 b3 b4 b5 b6 b7
    apply all8
    · clear d1 d2 d3 d4 d5 d6 d7
      simp (config := { decide := true }) only [ld, cutT, updz, if_true, if_false]
      omega
    · clear d0 d2 d3 d4 d5 d6 d7
      simp (config := { decide := true }) only [ld, cutT, updz, if_true, if_false]
      omega
    · exact Or.inl rfl
    · clear d0 d1 d2 d4 d5 d6 d7
      simp (config := { decide := true }) only [ld, cutT, updz, if_true, if_false]
      omega
    · clear d0 d1 d2 d3 d5 d6 d7
      simp (config := { decide := true }) only [ld, cutT, updz, if_true, if_false]
      omega
    · clear d0 d1 d2 d3 d4 d6 d7
      simp (config := { decide := true }) only [ld, cutT, updz, if_true, if_false]
      omega
    · clear d0 d1 d2 d3 d4 d5 d7
      simp (config := { decide := true }) only [ld, cutT, updz, if_true, if_false]
      omega
    · clear d0 d1 d2 d3 d4 d5 d6
      simp (config := { decide := true }) only [ld, cutT, updz, if_true, if_false]
      omega
theorem fit_cut3 {e T : Nat → Int} (h : Fit e T) {c : Int} (h1 : -T 7 < 2 * c) (h2 : 2 * c < T 3) : Fit (updz e 3 c) (cutT T 3 (2 * c)) := by
  obtain ⟨v2, v3, v6, v7⟩ := fit_even h
  obtain ⟨a, ww, b, d⟩ := h
  have a := of8 a
  have b := of8 b
  have d := of8 d
  simp only [ld] at a d
  obtain ⟨a0, a1, a2, a3, a4, a5, a6, a7⟩ := a
  obtain ⟨b0, b1, b2, b3, b4, b5, b6, b7⟩ := b
  obtain ⟨d0, d1, d2, d3, d4, d5, d6, d7⟩ := d
  refine ⟨?_, ?_, ?_, ?_⟩
  · clear b0 b1 b2 b3 b4 b5 b6 b7 d0 d1 d2 d3 d4 d5 d6 d7
    apply all8 <;> simp only [ld, cutT] <;> omega
  · clear b0 b1 b2 b3 b4 b5 b6 b7 d0 d1 d2 d3 d4 d5 d6 d7
    refine ⟨?_, ?_, ?_, ?_⟩ <;> simp only [cutT] <;> omega
  · clear d0 d1 d2 d3 d4 d5 d6 d7
    apply all8 <;> simp (config := { decide := true }) only [cutT, updz, if_true, if_false] <;> omega
  · clear b0 b1 b2 b3 b4 b5 b6 b7
    apply all8
    · clear d1 d2 d3 d4 d5 d6 d7
      simp (config := { decide := true }) only [ld, cutT, updz, if_true, if_false]
      omega
    · clear d0 d2 d3 d4 d5 d6 d7
      simp (config := { decide := true }) only [ld, cutT, updz, if_true, if_false]
      omega
    · clear d0 d1 d3 d4 d5 d6 d7
      simp (config := { decide := true }) only [ld, cutT, updz, if_true, if_false]
      omega
    · exact Or.inl rfl
    · clear d0 d1 d2 d3 d5 d6 d7
      simp (config := { decide := true }) only [ld, cutT, updz, if_true, if_false]
      omega
    · clear d0 d1 d2 d3 d4 d6 d7
      simp (config := { decide := true }) only [ld, cutT, updz, if_true, if_false]
      omega
    · clear d0 d1 d2 d3 d4 d5 d7
      simp (config := { decide := true }) only [ld, cutT, updz, if_true, if_false]
      omega
    · clear d0 d1 d2 d3 d4 d5 d6
      simp (config := { decide := true }) only [ld, cutT, updz, if_true, if_false]
      omega
theorem fit_cut4 {e T : Nat → Int} (h : Fit e T) {c : Int} (h1 : -T 0 < 2 * c) (h2 : 2 * c < T 4) : Fit (updz e 4 c) (cutT T 4 (2 * c)) := by
  obtain ⟨v2, v3, v6, v7⟩ := fit_even h
  obtain ⟨a, ww, b, d⟩ := h
  have a := of8 a
  have b := of8 b
  have d := of8 d
  simp only [ld] at a d
  obtain ⟨a0, a1, a2, a3, a4, a5, a6, a7⟩ := a
  obtain ⟨b0, b1, b2, b3, b4, b5, b6, b7⟩ := b
  obtain ⟨d0, d1, d2, d3, d4, d5, d6, d7⟩ := d
  refine ⟨?_, ?_, ?_, ?_⟩
  · clear b0 b1 b2 b3 b4 b5 b6 b7 d0 d1 d2 d3 d4 d5 d6 d7
    apply all8 <;> simp only [ld, cutT] <;> omega
  · clear b0 b1 b2 b3 b4 b5 b6 b7 d0 d1 d2 d3 d4 d5 d6 d7
    refine ⟨?_, ?_, ?_, ?_⟩ <;> simp only [cutT] <;> omega
  · clear d0 d1 d2 d3 d4 d5 d6 d7
    apply all8 <;> simp (config := { decide := true }) only [cutT, updz, if_true, if_false] <;> omega
  · clear b0 b1 b2 b3 b4 b5 b6 b7
    apply all8
    · clear d1 d2 d3 d4 d5 d6 d7
      simp (config := { decide := true }) only [ld, cutT, updz, if_true, if_false]
      omega
    · clear d0 d2 d3 d4 d5 d6 d7
      simp (config := { decide := true }) only [ld, cutT, updz, if_true, if_false]
      omega
    · clear d0 d1 d3 d4 d5 d6 d7
      simp (config := { decide := true }) only [ld, cutT, updz, if_true, if_false]
      omega
    · clear d0 d1 d2 d4 d5 d6 d7
      simp (config := { decide := true }) only [ld, cutT, updz, if_true, if_false]
      omega
    · exact Or.inl rfl
    · clear d0 d1 d2 d3 d4 d6 d7
      simp (config := { decide := true }) only [ld, cutT, updz, if_true, if_false]
      omega
    · clear d0 d1 d2 d3 d4 d5 d7
      simp (config := { decide := true }) only [ld, cutT, updz, if_true, if_false]
      omega
    · clear d0 d1 d2 d3 d4 d5 d6
      simp (config := { decide := true }) only [ld, cutT, updz, if_true, if_false]
      omega
theorem fit_cut5 {e T : Nat → Int} (h : Fit e T) {c : Int} (h1 : -T 1 < 2 * c) (h2 : 2 * c < T 5) : Fit (updz e 5 c) (cutT T 5 (2 * c)) := by
  obtain ⟨v2, v3, v6, v7⟩ := fit_even h
  obtain ⟨a, ww, b, d⟩ := h
  have a := of8 a
  have b := of8 b
  have d := of8 d
  simp only [ld] at a d
  obtain ⟨a0, a1, a2, a3, a4, a5, a6, a7⟩ := a
  obtain ⟨b0, b1, b2, b3, b4, b5, b6, b7⟩ := b
  obtain ⟨d0, d1, d2, d3, d4, d5, d6, d7⟩ := d
  refine ⟨?_, ?_, ?_, ?_⟩
  · clear b0 b1 b2 b3 b4 b5 b6 b7 d0 d1 d2 d3 d4 d5 d6 d7
    apply all8 <;> simp only [ld, cutT] <;> omega
  · clear b0 b1 b2 b3 b4 b5 b6 b7 d0 d1 d2 d3 d4 d5 d6 d7
    refine ⟨?_, ?_, ?_, ?_⟩ <;> simp only [cutT] <;> omega
  · clear d0 d1 d2 d3 d4 d5 d6 d7
    apply all8 <;> simp (config := { decide := true }) only [cutT, updz, if_true, if_false] <;> omega
  · clear b0 b1 b2 b3 b4 b5 b6 b7
    apply all8
    · clear d1 d2 d3 d4 d5 d6 d7
      simp (config := { decide := true }) only [ld, cutT, updz, if_true, if_false]
      omega
    · clear d0 d2 d3 d4 d5 d6 d7
      simp (config := { decide := true }) only [ld, cutT, updz, if_true, if_false]
      omega
    · clear d0 d1 d3 d4 d5 d6 d7
      simp (config := { decide := true }) only [ld, cutT, updz, if_true, if_false]
      omega
    · clear d0 d1 d2 d4 d5 d6 d7
      simp (config := { decide := true }) only [ld, cutT, updz, if_true, if_false]
      omega
    · clear d0 d1 d2 d3 d5 d6 d7
      simp (config := { decide := true }) only [ld, cutT, updz, if_true, if_false]
      omega
    · exact Or.inl rfl
    · clear d0 d1 d2 d3 d4 d5 d7
      simp (config := { decide := true }) only [ld, cutT, updz, if_true, if_false]
      omega
    · clear d0 d1 d2 d3 d4 d5 d6
      simp (config := { decide := true }) only [ld, cutT, updz, if_true, if_false]
      omega
theorem fit_cut6 {e T : Nat → Int} (h : Fit e T) {c : Int} (h1 : -T 2 < 2 * c) (h2 : 2 * c < T 6) : Fit (updz e 6 c) (cutT T 6 (2 * c)) := by
  obtain ⟨v2, v3, v6, v7⟩ := fit_even h
  obtain ⟨a, ww, b, d⟩ := h
  have a := of8 a
  have b := of8 b
  have d := of8 d
  simp only [ld] at a d
  obtain ⟨a0, a1, a2, a3, a4, a5, a6, a7⟩ := a
  obtain ⟨b0, b1, b2, b3, b4, b5, b6, b7⟩ := b
  obtain ⟨d0, d1, d2, d3, d4, d5, d6, d7⟩ := d
  refine ⟨?_, ?_, ?_, ?_⟩
  · clear b0 b1 b2 b3 b4 b5 b6 b7 d0 d1 d2 d3 d4 d5 d6 d7
    apply all8 <;> simp only [ld, cutT] <;> omega
  · clear b0 b1 b2 b3 b4 b5 b6 b7 d0 d1 d2 d3 d4 d5 d6 d7
    refine ⟨?_, ?_, ?_, ?_⟩ <;> simp only [cutT] <;> omega
  · clear d0 d1 d2 d3 d4 d5 d6 d7
    apply all8 <;> simp (config := { decide := true }) only [cutT, updz, if_true, if_false] <;> omega
  · clear b0 b1 b2 b3 b4 b5 b6 b7
    apply all8
    · clear d1 d2 d3 d4 d5 d6 d7
      simp (config := { decide := true }) only [ld, cutT, updz, if_true, if_false]
      omega
    · clear d0 d2 d3 d4 d5 d6 d7
      simp (config := { decide := true }) only [ld, cutT, updz, if_true, if_false]
      omega
    · clear d0 d1 d3 d4 d5 d6 d7
      simp (config := { decide := true }) only [ld, cutT, updz, if_true, if_false]
      omega
    · clear d0 d1 d2 d4 d5 d6 d7
      simp (config := { decide := true }) only [ld, cutT, updz, if_true, if_false]
      omega
    · clear d0 d1 d2 d3 d5 d6 d7
      simp (config := { decide := true }) only [ld, cutT, updz, if_true, if_false]
      omega
    · clear d0 d1 d2 d3 d4 d6 d7
      simp (config := { decide := true }) only [ld, cutT, updz, if_true, if_false]
      omega
    · exact Or.inl rfl
    · clear d0 d1 d2 d3 d4 d5 d6
      simp (config := { decide := true }) only [ld, cutT, updz, if_true, if_false]
      omega
theorem fit_cut7 {e T : Nat → Int} (h : Fit e T) {c : Int} (h1 : -T 3 < 2 * c) (h2 : 2 * c < T 7) : Fit (updz e 7 c) (cutT T 7 (2 * c)) := by
  obtain ⟨v2, v3, v6, v7⟩ := fit_even h
  obtain ⟨a, ww, b, d⟩ := h
  have a := of8 a
  have b := of8 b
  have d := of8 d
  simp only [ld] at a d
  obtain ⟨a0, a1, a2, a3, a4, a5, a6, a7⟩ := a
  obtain ⟨b0, b1, b2, b3, b4, b5, b6, b7⟩ := b
  obtain ⟨d0, d1, d2, d3, d4, d5, d6, d7⟩ := d
  refine ⟨?_, ?_, ?_, ?_⟩
  · clear b0 b1 b2 b3 b4 b5 b6 b7 d0 d1 d2 d3 d4 d5 d6 d7
    apply all8 <;> simp only [ld, cutT] <;> omega
  · clear b0 b1 b2 b3 b4 b5 b6 b7 d0 d1 d2 d3 d4 d5 d6 d7
    refine ⟨?_, ?_, ?_, ?_⟩ <;> simp only [cutT] <;> omega
  · clear d0 d1 d2 d3 d4 d5 d6 d7
    apply all8 <;> simp (config := { decide := true }) only [cutT, updz, if_true, if_false] <;> omega
  · clear b0 b1 b2 b3 b4 b5 b6 b7
    apply all8
    · clear d1 d2 d3 d4 d5 d6 d7
      simp (config := { decide := true }) only [ld, cutT, updz, if_true, if_false]
      omega
    · clear d0 d2 d3 d4 d5 d6 d7
      simp (config := { decide := true }) only [ld, cutT, updz, if_true, if_false]
      omega
    · clear d0 d1 d3 d4 d5 d6 d7
      simp (config := { decide := true }) only [ld, cutT, updz, if_true, if_false]
      omega
    · clear d0 d1 d2 d4 d5 d6 d7
      simp (config := { decide := true }) only [ld, cutT, updz, if_true, if_false]
      omega
    · clear d0 d1 d2 d3 d5 d6 d7
      simp (config := { decide := true }) only [ld, cutT, updz, if_true, if_false]
      omega
    · clear d0 d1 d2 d3 d4 d6 d7
      simp (config := { decide := true }) only [ld, cutT, updz, if_true, if_false]
      omega
    · clear d0 d1 d2 d3 d4 d5 d7
      simp (config := { decide := true }) only [ld, cutT, updz, if_true, if_false]
      omega
    · exact Or.inl rfl
theorem fit_cut {e T : Nat → Int} (h : Fit e T) {c : Int} : ∀ w, w < 8 → -T (opp w) < 2 * c → 2 * c < T w → Fit (updz e w c) (cutT T w (2 * c)) :=
  all8 (fun h1 h2 => fit_cut0 h h1 h2) (fun h1 h2 => fit_cut1 h h1 h2) (fun h1 h2 => fit_cut2 h h1 h2) (fun h1 h2 => fit_cut3 h h1 h2) (fun h1 h2 => fit_cut4 h h1 h2) (fun h1 h2 => fit_cut5 h h1 h2) (fun h1 h2 => fit_cut6 h h1 h2) (fun h1 h2 => fit_cut7 h h1 h2)
