/-! ===== what comes: a piece, an assembly ===== -/
def cls3 (r : Nat) : Nat := if r < 16 then 0 else if r < 22 then 1 else if r < 25 then 2 else 0
theorem rt_fin : ∀ r, r < 89 → ∀ k, k < 49 → (match rt r k with
  | some t => (rg t).isSome && (cls3 t == cls3 r)
  | none => true) = true := by decide +kernel
theorem rt_bd {r k t : Nat} (h : rt r k = some t) : r < 89 ∧ k < 49 := by
  have h1 : r < 89 := by
    rcases Nat.lt_or_ge r 89 with q | q
    · exact q
    · exfalso
      have : rtT[r]? = none := List.getElem?_eq_none (by show 89 ≤ r; exact q)
      rw [rt, this] at h
      cases h
  refine ⟨h1, ?_⟩
  rcases Nat.lt_or_ge k 49 with q | q
  · exact q
  · exfalso
    have hl : ∀ l ∈ rtT, l.length ≤ 49 := by decide +kernel
    unfold rt at h
    cases e : rtT[r]? with
    | none => rw [e] at h; cases h
    | some l =>
      rw [e] at h
      have h2 : l[k]? = none := List.getElem?_eq_none (Nat.le_trans (hl l (List.mem_of_getElem? e)) q)
      simp only [Option.getD_some, h2] at h
      cases h
theorem gal_cls {σ : SS} {r i : Nat} : gal σ r i ↔ (rg r).isSome = true ∧ (if cls3 r = 1 then i < σ.2.1 else if cls3 r = 2 then i < σ.2.2 else i = 0) := by
  unfold gal cls3
  by_cases h1 : r < 16
  · simp [h1]
  · by_cases h2 : r < 22
    · simp [h1, h2]
    · by_cases h3 : r < 25
      · simp [h1, h2, h3]
      · simp [h1, h2, h3]
theorem gal_closed {σ : SS} {r i k t : Nat} (h : gal σ r i) (hk : rt r k = some t) : gal σ t i := by
  obtain ⟨h1, h2⟩ := rt_bd hk
  have h3 := rt_fin r h1 k h2
  rw [hk] at h3
  simp only [Bool.and_eq_true, beq_iff_eq] at h3
  rw [gal_cls] at h ⊢
  exact ⟨h3.1, by rw [h3.2]; exact h.2⟩
theorem view_hal {σ : SS} {r i : Nat} (h : gal σ r i) (k : Nat) : hal σ (view σ r i k) := by
  unfold view
  split
  · rename_i t ht
    exact Or.inl (gal_closed h ht)
  · split
    · split
      · rename_i hk
        exact Or.inl ⟨rfl, hk⟩
      · trivial
    · split
      · split
        · rename_i hk
          exact Or.inl ⟨rfl, hk⟩
        · trivial
      · trivial
theorem cell_lt {w : WX} {ad : Nat → Nat → Nat} {σ : SS} {r i : Nat} {H : Heap} (hg : gal σ r i) (h : cellOk w ad σ r i H) : ad r i < H.size := by
  unfold cellOk at h
  split at h
  · obtain ⟨cell, q, -⟩ := h
    exact (Array.getElem?_eq_some_iff.mp q).1
  · exact (Array.getElem?_eq_some_iff.mp h).1
  · rename_i e
    have := hg.1
    rw [e] at this
    cases this
def newP (σ : SS) : SS := (fun r i k => if (16 ≤ r ∧ r < 22) ∧ i = σ.2.1 then 0 else σ.1 r i k, σ.2.1 + 1, σ.2.2)
def adP (ad : Nat → Nat → Nat) (σ : SS) (a : Nat) : Nat → Nat → Nat := fun r i => if (16 ≤ r ∧ r < 22) ∧ i = σ.2.1 then a + (r - 16) else ad r i
theorem adP_old {ad : Nat → Nat → Nat} {σ : SS} {a r i : Nat} (h : alv σ r i) : adP ad σ a r i = ad r i := by
  refine if_neg (fun q => ?_)
  rcases h with h | h
  · have h2 := h.2
    rw [if_neg (by omega), if_pos (by omega)] at h2
    omega
  · omega
theorem adP_new {ad : Nat → Nat → Nat} {σ : SS} {a r : Nat} (h : 16 ≤ r ∧ r < 22) : adP ad σ a r σ.2.1 = a + (r - 16) := if_pos ⟨h, rfl⟩
theorem gal_newP {σ : SS} {r i : Nat} (h : gal (newP σ) r i) : ((16 ≤ r ∧ r < 22) ∧ i = σ.2.1) ∨ (gal σ r i ∧ ¬ ((16 ≤ r ∧ r < 22) ∧ i = σ.2.1)) := by
  by_cases hn : (16 ≤ r ∧ r < 22) ∧ i = σ.2.1
  · exact Or.inl hn
  · refine Or.inr ⟨⟨h.1, ?_⟩, hn⟩
    have h2 := h.2
    by_cases hr : 16 ≤ r ∧ r < 22
    · rw [if_neg (by omega), if_pos (by omega)] at h2 ⊢
      have h3 : i < σ.2.1 + 1 := h2
      omega
    · by_cases h1 : r < 16
      · rw [if_pos h1] at h2 ⊢
        exact h2
      · rw [if_neg h1] at h2 ⊢
        by_cases h4 : r < 22
        · rw [if_pos h4] at h2 ⊢
          first | exact h2 | exact absurd ⟨by omega, by omega⟩ hr
        · rw [if_neg h4] at h2 ⊢
          by_cases h5 : r < 25
          · rw [if_pos h5] at h2 ⊢
            first | exact h2 | exact absurd ⟨by omega, by omega⟩ hr
          · rw [if_neg h5] at h2 ⊢
            exact h2
theorem gal_monoP {σ : SS} {r i : Nat} (h : gal σ r i) : gal (newP σ) r i := by
  refine ⟨h.1, ?_⟩
  have h2 := h.2
  by_cases h1 : r < 16
  · rw [if_pos h1] at h2 ⊢
    exact h2
  · rw [if_neg h1] at h2 ⊢
    by_cases h4 : r < 22
    · rw [if_pos h4] at h2 ⊢
      show i < (newP σ).2.1
      exact Nat.lt_succ_of_lt h2
    · rw [if_neg h4] at h2 ⊢
      by_cases h5 : r < 25
      · rw [if_pos h5] at h2 ⊢
        show i < (newP σ).2.2
        exact h2
      · rw [if_neg h5] at h2 ⊢
        exact h2
theorem view_newP {σ : SS} {r i : Nat} (hn : ¬ ((16 ≤ r ∧ r < 22) ∧ i = σ.2.1)) (h2 : r ≠ 2) (k : Nat) : view (newP σ) r i k = view σ r i k := by
  have e : (newP σ).1 r i k = σ.1 r i k := if_neg hn
  unfold view
  rw [e]
  split
  · rfl
  · by_cases h3 : r = 13
    · subst h3
      rfl
    · first | rw [if_neg h2, if_neg h2] | rw [if_neg h3, if_neg h3]
      first | rw [if_neg h3, if_neg h3] | rw [if_neg h2, if_neg h2]
theorem Rel.growP {w : WX} {ad : Nat → Nat → Nat} {σ : SS} {H H1 H2 : Heap} (h : Rel w ad σ H) (hcr : CR w H ([.inl (4, [.ref (H.size + 1), .int 0, .int 0, .int 0, .int 0]), .inl (3, [.ref (H.size + 2), .ref (H.size + 3), .ref (H.size + 4), .ref (H.size + 5), .int 0]), .inr (0, 8, fun _ => .int 0), .inr (0, 8, fun _ => .int 0), .inr (0, 8, fun _ => .int 0), .inr (0, 8, fun _ => .int 0)] : List NC) H1)
    (e1 : H2[ad 2 0]? = some ((arrV (w.2.1 2) 60 (fun j => cv ad (view σ 2 0 j))).setSlot σ.2.1 (.ref (H.size + 0)))) (e2 : H2.size = H1.size) (e3 : ∀ q, q ≠ ad 2 0 → H2[q]? = H1[q]?) : Rel w (adP ad σ H.size) (newP σ) H2 := by
  have hg2 : gal σ 2 0 := ⟨rfl, rfl⟩
  have hlt : ∀ r i, gal σ r i → ad r i < H.size := fun r i hg => cell_lt hg (h.2.2.1 r i hg).2
  have hag : ∀ r i, alv σ r i → adP ad σ H.size r i = ad r i := fun r i ha => adP_old ha
  have hcv : ∀ r i, gal σ r i → ∀ k, cv (adP ad σ H.size) (view σ r i k) = cv ad (view σ r i k) := fun r i hg k => cv_agree hag (view_hal hg k)
  have hsz : H.size ≤ H2.size := by rw [e2, hcr.1]; exact Nat.le_add_right _ _
  have hold : ∀ q, q < H.size → q ≠ ad 2 0 → H2[q]? = H[q]? := fun q h1 h2 => (e3 q h2).trans (hcr.2.1 q h1)
  have hnew : ∀ (k : Nat) (c : NC), ([.inl (4, [.ref (H.size + 1), .int 0, .int 0, .int 0, .int 0]), .inl (3, [.ref (H.size + 2), .ref (H.size + 3), .ref (H.size + 4), .ref (H.size + 5), .int 0]), .inr (0, 8, fun _ => .int 0), .inr (0, 8, fun _ => .int 0), .inr (0, 8, fun _ => .int 0), .inr (0, 8, fun _ => .int 0)] : List NC)[k]? = some c → ncOk w (H.size + k) c H2 := fun k c hk => (hcr.2.2 k c hk).kept (e3 _ (by have := hlt 2 0 hg2; omega))
  have hb2 := (h.2.2.1 2 0 hg2).1
  refine ⟨Nat.le_trans h.1 hsz, fun q hq => (hold q (Nat.lt_of_lt_of_le hq h.1) (by omega)).trans (h.2.1 q hq), fun r i hg => ?_, fun r i r' i' hg hg' he => ?_, fun k hk => ?_⟩
  · rcases gal_newP hg with hn | ⟨ho, hn⟩
    · obtain ⟨hr, rfl⟩ := hn
      rw [adP_new hr]
      refine ⟨Nat.le_trans h.1 (Nat.le_add_right _ _), ?_⟩
      rcases (show r = 16 ∨ r = 17 ∨ r = 18 ∨ r = 19 ∨ r = 20 ∨ r = 21 by omega) with rfl | rfl | rfl | rfl | rfl | rfl
      · have hc := hnew 0 _ rfl
        show t_OB (adP ad σ H.size 16 σ.2.1) _ 5 _ H2 _
        rw [adP_new hr]
        refine t_OB.to hc (fun k hk => ?_)
        have hk : k < 5 := hk
        rcases (show k = 0 ∨ k = 1 ∨ k = 2 ∨ k = 3 ∨ k = 4 by omega) with rfl | rfl | rfl | rfl | rfl
        · show Value.ref _ = Value.ref (adP ad σ H.size 17 σ.2.1)
          rw [adP_new ⟨by decide, by decide⟩]
        · show Value.int 0 = Value.int ((newP σ).1 16 σ.2.1 1)
          rw [show (newP σ).1 16 σ.2.1 1 = 0 from if_pos ⟨hr, rfl⟩]
        · show Value.int 0 = Value.int ((newP σ).1 16 σ.2.1 2)
          rw [show (newP σ).1 16 σ.2.1 2 = 0 from if_pos ⟨hr, rfl⟩]
        · show Value.int 0 = Value.int ((newP σ).1 16 σ.2.1 3)
          rw [show (newP σ).1 16 σ.2.1 3 = 0 from if_pos ⟨hr, rfl⟩]
        · show Value.int 0 = Value.int ((newP σ).1 16 σ.2.1 4)
          rw [show (newP σ).1 16 σ.2.1 4 = 0 from if_pos ⟨hr, rfl⟩]
      · have hc := hnew 1 _ rfl
        show t_OB (adP ad σ H.size 17 σ.2.1) _ 5 _ H2 _
        rw [adP_new hr]
        refine t_OB.to hc (fun k hk => ?_)
        have hk : k < 5 := hk
        rcases (show k = 0 ∨ k = 1 ∨ k = 2 ∨ k = 3 ∨ k = 4 by omega) with rfl | rfl | rfl | rfl | rfl
        · show Value.ref _ = Value.ref (adP ad σ H.size 18 σ.2.1)
          rw [adP_new ⟨by decide, by decide⟩]
        · show Value.ref _ = Value.ref (adP ad σ H.size 19 σ.2.1)
          rw [adP_new ⟨by decide, by decide⟩]
        · show Value.ref _ = Value.ref (adP ad σ H.size 20 σ.2.1)
          rw [adP_new ⟨by decide, by decide⟩]
        · show Value.ref _ = Value.ref (adP ad σ H.size 21 σ.2.1)
          rw [adP_new ⟨by decide, by decide⟩]
        · show Value.int 0 = Value.int ((newP σ).1 17 σ.2.1 4)
          rw [show (newP σ).1 17 σ.2.1 4 = 0 from if_pos ⟨hr, rfl⟩]
      · have hc : H2[H.size + 2]? = some (arrV (w.2.1 0) 8 (fun _ => .int 0)) := hnew 2 _ rfl
        show H2[adP ad σ H.size 18 σ.2.1]? = some (arrV (w.2.1 0) 8 _)
        rw [adP_new hr]
        refine hc.trans ?_
        congr 2
        funext j
        show Value.int 0 = Value.int ((newP σ).1 18 σ.2.1 j)
        rw [show (newP σ).1 18 σ.2.1 j = 0 from if_pos ⟨hr, rfl⟩]
      · have hc : H2[H.size + 3]? = some (arrV (w.2.1 0) 8 (fun _ => .int 0)) := hnew 3 _ rfl
        show H2[adP ad σ H.size 19 σ.2.1]? = some (arrV (w.2.1 0) 8 _)
        rw [adP_new hr]
        refine hc.trans ?_
        congr 2
        funext j
        show Value.int 0 = Value.int ((newP σ).1 19 σ.2.1 j)
        rw [show (newP σ).1 19 σ.2.1 j = 0 from if_pos ⟨hr, rfl⟩]
      · have hc : H2[H.size + 4]? = some (arrV (w.2.1 0) 8 (fun _ => .int 0)) := hnew 4 _ rfl
        show H2[adP ad σ H.size 20 σ.2.1]? = some (arrV (w.2.1 0) 8 _)
        rw [adP_new hr]
        refine hc.trans ?_
        congr 2
        funext j
        show Value.int 0 = Value.int ((newP σ).1 20 σ.2.1 j)
        rw [show (newP σ).1 20 σ.2.1 j = 0 from if_pos ⟨hr, rfl⟩]
      · have hc : H2[H.size + 5]? = some (arrV (w.2.1 0) 8 (fun _ => .int 0)) := hnew 5 _ rfl
        show H2[adP ad σ H.size 21 σ.2.1]? = some (arrV (w.2.1 0) 8 _)
        rw [adP_new hr]
        refine hc.trans ?_
        congr 2
        funext j
        show Value.int 0 = Value.int ((newP σ).1 21 σ.2.1 j)
        rw [show (newP σ).1 21 σ.2.1 j = 0 from if_pos ⟨hr, rfl⟩]
    · rw [hag r i (Or.inl ho)]
      refine ⟨(h.2.2.1 r i ho).1, ?_⟩
      by_cases hr2 : r = 2
      · subst hr2
        have hi : i = 0 := ho.2
        subst hi
        show H2[adP ad σ H.size 2 0]? = some _
        rw [hag 2 0 (Or.inl ho), e1, arrV_store]
        congr 2
        funext j
        by_cases hj : j = σ.2.1
        · subst hj
          have e : view (newP σ) 2 0 σ.2.1 = vR 16 σ.2.1 := by
            show (if σ.2.1 < σ.2.1 + 1 then vR 16 σ.2.1 else vN) = _
            rw [if_pos (Nat.lt_succ_self _)]
          rw [e]
          show updV _ _ _ _ = Value.ref (adP ad σ H.size 16 σ.2.1)
          rw [adP_new ⟨by decide, by decide⟩]
          simp [updV]
        · have e : view (newP σ) 2 0 j = view σ 2 0 j := by
            show (if j < σ.2.1 + 1 then vR 16 j else vN) = (if j < σ.2.1 then vR 16 j else vN)
            by_cases hjl : j < σ.2.1
            · rw [if_pos hjl, if_pos (by omega)]
            · rw [if_neg hjl, if_neg (by omega)]
          rw [e, hcv _ _ ho]
          simp [updV, hj]
      · have hc := (h.2.2.1 r i ho).2
        have hne : ad r i ≠ ad 2 0 := fun e => hr2 (h.2.2.2.1 r i 2 0 ho hg2 e).1
        have hk : H2[ad r i]? = H[ad r i]? := hold _ (hlt r i ho) hne
        have hv : ∀ k, cv (adP ad σ H.size) (view (newP σ) r i k) = cv ad (view σ r i k) := fun k => by rw [view_newP hn hr2, hcv r i ho]
        unfold cellOk at hc ⊢
        simp only [hv]
        rw [hag r i (Or.inl ho)]
        split
        · rename_i hrr
          rw [hrr] at hc
          exact t_OB.kept hc hk
        · rename_i hrr
          rw [hrr] at hc
          rw [hk]
          exact hc
        · trivial
  · rcases gal_newP hg with hn | ⟨ho, hn⟩ <;> rcases gal_newP hg' with hn' | ⟨ho', hn'⟩
    · obtain ⟨hr, rfl⟩ := hn
      obtain ⟨hr', rfl⟩ := hn'
      rw [adP_new hr, adP_new hr'] at he
      exact ⟨by omega, rfl⟩
    · obtain ⟨hr, rfl⟩ := hn
      rw [adP_new hr, hag r' i' (Or.inl ho')] at he
      have := hlt r' i' ho'
      omega
    · obtain ⟨hr', rfl⟩ := hn'
      rw [adP_new hr', hag r i (Or.inl ho)] at he
      have := hlt r i ho
      omega
    · rw [hag r i (Or.inl ho), hag r' i' (Or.inl ho')] at he
      exact h.2.2.2.1 r i r' i' ho ho' he
  · have e : adP ad σ H.size (100 + k) 0 = ad (100 + k) 0 := if_neg (by omega)
    rw [e]
    exact h.2.2.2.2 k hk
def newA (σ : SS) : SS := (fun r i k => if (22 ≤ r ∧ r < 25) ∧ i = σ.2.2 then 0 else σ.1 r i k, σ.2.1, σ.2.2 + 1)
def adA (ad : Nat → Nat → Nat) (σ : SS) (a : Nat) : Nat → Nat → Nat := fun r i => if (22 ≤ r ∧ r < 25) ∧ i = σ.2.2 then a + (r - 22) else ad r i
theorem adA_old {ad : Nat → Nat → Nat} {σ : SS} {a r i : Nat} (h : alv σ r i) : adA ad σ a r i = ad r i := by
  refine if_neg (fun q => ?_)
  rcases h with h | h
  · have h2 := h.2
    rw [if_neg (by omega), if_neg (by omega), if_pos (by omega)] at h2
    omega
  · omega
theorem adA_new {ad : Nat → Nat → Nat} {σ : SS} {a r : Nat} (h : 22 ≤ r ∧ r < 25) : adA ad σ a r σ.2.2 = a + (r - 22) := if_pos ⟨h, rfl⟩
theorem gal_newA {σ : SS} {r i : Nat} (h : gal (newA σ) r i) : ((22 ≤ r ∧ r < 25) ∧ i = σ.2.2) ∨ (gal σ r i ∧ ¬ ((22 ≤ r ∧ r < 25) ∧ i = σ.2.2)) := by
  by_cases hn : (22 ≤ r ∧ r < 25) ∧ i = σ.2.2
  · exact Or.inl hn
  · refine Or.inr ⟨⟨h.1, ?_⟩, hn⟩
    have h2 := h.2
    by_cases hr : 22 ≤ r ∧ r < 25
    · rw [if_neg (by omega), if_neg (by omega), if_pos (by omega)] at h2 ⊢
      have h3 : i < σ.2.2 + 1 := h2
      omega
    · by_cases h1 : r < 16
      · rw [if_pos h1] at h2 ⊢
        exact h2
      · rw [if_neg h1] at h2 ⊢
        by_cases h4 : r < 22
        · rw [if_pos h4] at h2 ⊢
          first | exact h2 | exact absurd ⟨by omega, by omega⟩ hr
        · rw [if_neg h4] at h2 ⊢
          by_cases h5 : r < 25
          · rw [if_pos h5] at h2 ⊢
            first | exact h2 | exact absurd ⟨by omega, by omega⟩ hr
          · rw [if_neg h5] at h2 ⊢
            exact h2
theorem gal_monoA {σ : SS} {r i : Nat} (h : gal σ r i) : gal (newA σ) r i := by
  refine ⟨h.1, ?_⟩
  have h2 := h.2
  by_cases h1 : r < 16
  · rw [if_pos h1] at h2 ⊢
    exact h2
  · rw [if_neg h1] at h2 ⊢
    by_cases h4 : r < 22
    · rw [if_pos h4] at h2 ⊢
      show i < (newA σ).2.1
      exact h2
    · rw [if_neg h4] at h2 ⊢
      by_cases h5 : r < 25
      · rw [if_pos h5] at h2 ⊢
        show i < (newA σ).2.2
        exact Nat.lt_succ_of_lt h2
      · rw [if_neg h5] at h2 ⊢
        exact h2
theorem view_newA {σ : SS} {r i : Nat} (hn : ¬ ((22 ≤ r ∧ r < 25) ∧ i = σ.2.2)) (h2 : r ≠ 13) (k : Nat) : view (newA σ) r i k = view σ r i k := by
  have e : (newA σ).1 r i k = σ.1 r i k := if_neg hn
  unfold view
  rw [e]
  split
  · rfl
  · by_cases h3 : r = 2
    · subst h3
      rfl
    · first | rw [if_neg h2, if_neg h2] | rw [if_neg h3, if_neg h3]
      first | rw [if_neg h3, if_neg h3] | rw [if_neg h2, if_neg h2]
theorem Rel.growA {w : WX} {ad : Nat → Nat → Nat} {σ : SS} {H H1 H2 : Heap} (h : Rel w ad σ H) (hcr : CR w H ([.inl (1, [.ref (H.size + 1), .ref (H.size + 2), .int 0, .int 0, .int 0]), .inr (0, 20, fun _ => .int 0), .inr (1, 20, fun _ => .int 0)] : List NC) H1)
    (e1 : H2[ad 13 0]? = some ((arrV (w.2.1 3) 12 (fun j => cv ad (view σ 13 0 j))).setSlot σ.2.2 (.ref (H.size + 0)))) (e2 : H2.size = H1.size) (e3 : ∀ q, q ≠ ad 13 0 → H2[q]? = H1[q]?) : Rel w (adA ad σ H.size) (newA σ) H2 := by
  have hg2 : gal σ 13 0 := ⟨rfl, rfl⟩
  have hlt : ∀ r i, gal σ r i → ad r i < H.size := fun r i hg => cell_lt hg (h.2.2.1 r i hg).2
  have hag : ∀ r i, alv σ r i → adA ad σ H.size r i = ad r i := fun r i ha => adA_old ha
  have hcv : ∀ r i, gal σ r i → ∀ k, cv (adA ad σ H.size) (view σ r i k) = cv ad (view σ r i k) := fun r i hg k => cv_agree hag (view_hal hg k)
  have hsz : H.size ≤ H2.size := by rw [e2, hcr.1]; exact Nat.le_add_right _ _
  have hold : ∀ q, q < H.size → q ≠ ad 13 0 → H2[q]? = H[q]? := fun q h1 h2 => (e3 q h2).trans (hcr.2.1 q h1)
  have hnew : ∀ (k : Nat) (c : NC), ([.inl (1, [.ref (H.size + 1), .ref (H.size + 2), .int 0, .int 0, .int 0]), .inr (0, 20, fun _ => .int 0), .inr (1, 20, fun _ => .int 0)] : List NC)[k]? = some c → ncOk w (H.size + k) c H2 := fun k c hk => (hcr.2.2 k c hk).kept (e3 _ (by have := hlt 13 0 hg2; omega))
  have hb2 := (h.2.2.1 13 0 hg2).1
  refine ⟨Nat.le_trans h.1 hsz, fun q hq => (hold q (Nat.lt_of_lt_of_le hq h.1) (by omega)).trans (h.2.1 q hq), fun r i hg => ?_, fun r i r' i' hg hg' he => ?_, fun k hk => ?_⟩
  · rcases gal_newA hg with hn | ⟨ho, hn⟩
    · obtain ⟨hr, rfl⟩ := hn
      rw [adA_new hr]
      refine ⟨Nat.le_trans h.1 (Nat.le_add_right _ _), ?_⟩
      rcases (show r = 22 ∨ r = 23 ∨ r = 24 by omega) with rfl | rfl | rfl
      · have hc := hnew 0 _ rfl
        show t_OB (adA ad σ H.size 22 σ.2.2) _ 5 _ H2 _
        rw [adA_new hr]
        refine t_OB.to hc (fun k hk => ?_)
        have hk : k < 5 := hk
        rcases (show k = 0 ∨ k = 1 ∨ k = 2 ∨ k = 3 ∨ k = 4 by omega) with rfl | rfl | rfl | rfl | rfl
        · show Value.ref _ = Value.ref (adA ad σ H.size 23 σ.2.2)
          rw [adA_new ⟨by decide, by decide⟩]
        · show Value.ref _ = Value.ref (adA ad σ H.size 24 σ.2.2)
          rw [adA_new ⟨by decide, by decide⟩]
        · show Value.int 0 = Value.int ((newA σ).1 22 σ.2.2 2)
          rw [show (newA σ).1 22 σ.2.2 2 = 0 from if_pos ⟨hr, rfl⟩]
        · show Value.int 0 = Value.int ((newA σ).1 22 σ.2.2 3)
          rw [show (newA σ).1 22 σ.2.2 3 = 0 from if_pos ⟨hr, rfl⟩]
        · show Value.int 0 = Value.int ((newA σ).1 22 σ.2.2 4)
          rw [show (newA σ).1 22 σ.2.2 4 = 0 from if_pos ⟨hr, rfl⟩]
      · have hc : H2[H.size + 1]? = some (arrV (w.2.1 0) 20 (fun _ => .int 0)) := hnew 1 _ rfl
        show H2[adA ad σ H.size 23 σ.2.2]? = some (arrV (w.2.1 0) 20 _)
        rw [adA_new hr]
        refine hc.trans ?_
        congr 2
        funext j
        show Value.int 0 = Value.int ((newA σ).1 23 σ.2.2 j)
        rw [show (newA σ).1 23 σ.2.2 j = 0 from if_pos ⟨hr, rfl⟩]
      · have hc : H2[H.size + 2]? = some (arrV (w.2.1 1) 20 (fun _ => .int 0)) := hnew 2 _ rfl
        show H2[adA ad σ H.size 24 σ.2.2]? = some (arrV (w.2.1 1) 20 _)
        rw [adA_new hr]
        refine hc.trans ?_
        congr 2
        funext j
        show Value.int 0 = Value.int ((newA σ).1 24 σ.2.2 j)
        rw [show (newA σ).1 24 σ.2.2 j = 0 from if_pos ⟨hr, rfl⟩]
    · rw [hag r i (Or.inl ho)]
      refine ⟨(h.2.2.1 r i ho).1, ?_⟩
      by_cases hr2 : r = 13
      · subst hr2
        have hi : i = 0 := ho.2
        subst hi
        show H2[adA ad σ H.size 13 0]? = some _
        rw [hag 13 0 (Or.inl ho), e1, arrV_store]
        congr 2
        funext j
        by_cases hj : j = σ.2.2
        · subst hj
          have e : view (newA σ) 13 0 σ.2.2 = vR 22 σ.2.2 := by
            show (if σ.2.2 < σ.2.2 + 1 then vR 22 σ.2.2 else vN) = _
            rw [if_pos (Nat.lt_succ_self _)]
          rw [e]
          show updV _ _ _ _ = Value.ref (adA ad σ H.size 22 σ.2.2)
          rw [adA_new ⟨by decide, by decide⟩]
          simp [updV]
        · have e : view (newA σ) 13 0 j = view σ 13 0 j := by
            show (if j < σ.2.2 + 1 then vR 22 j else vN) = (if j < σ.2.2 then vR 22 j else vN)
            by_cases hjl : j < σ.2.2
            · rw [if_pos hjl, if_pos (by omega)]
            · rw [if_neg hjl, if_neg (by omega)]
          rw [e, hcv _ _ ho]
          simp [updV, hj]
      · have hc := (h.2.2.1 r i ho).2
        have hne : ad r i ≠ ad 13 0 := fun e => hr2 (h.2.2.2.1 r i 13 0 ho hg2 e).1
        have hk : H2[ad r i]? = H[ad r i]? := hold _ (hlt r i ho) hne
        have hv : ∀ k, cv (adA ad σ H.size) (view (newA σ) r i k) = cv ad (view σ r i k) := fun k => by rw [view_newA hn hr2, hcv r i ho]
        unfold cellOk at hc ⊢
        simp only [hv]
        rw [hag r i (Or.inl ho)]
        split
        · rename_i hrr
          rw [hrr] at hc
          exact t_OB.kept hc hk
        · rename_i hrr
          rw [hrr] at hc
          rw [hk]
          exact hc
        · trivial
  · rcases gal_newA hg with hn | ⟨ho, hn⟩ <;> rcases gal_newA hg' with hn' | ⟨ho', hn'⟩
    · obtain ⟨hr, rfl⟩ := hn
      obtain ⟨hr', rfl⟩ := hn'
      rw [adA_new hr, adA_new hr'] at he
      exact ⟨by omega, rfl⟩
    · obtain ⟨hr, rfl⟩ := hn
      rw [adA_new hr, hag r' i' (Or.inl ho')] at he
      have := hlt r' i' ho'
      omega
    · obtain ⟨hr', rfl⟩ := hn'
      rw [adA_new hr', hag r i (Or.inl ho)] at he
      have := hlt r i ho
      omega
    · rw [hag r i (Or.inl ho), hag r' i' (Or.inl ho')] at he
      exact h.2.2.2.1 r i r' i' ho ho' he
  · have e : adA ad σ H.size (100 + k) 0 = ad (100 + k) 0 := if_neg (by omega)
    rw [e]
    exact h.2.2.2.2 k hk
theorem l_newP {d : Nat} {X : MX} {Y : MY} {mi : MI} {pc pc' : Nat} {lv : List (Option MV)} {st : List MV} {σ : SS} {res : RES} {idx1 idx2 : Nat} {j : Int32} (hw1 : CB mi.1.cls idx1 4 5 [.null, .int 0, .int 0, .int 0, .int 0]) (hw2 : KN mi.1.cls idx2 "OctagonYard" mi_X4_init) (hd1 : decode mi.2.1 pc = .ok (.new idx1, 3)) (hd2 : decode mi.2.1 (pc + 3) = .ok (.dup, 1)) (hd3 : decode mi.2.1 (pc + 4) = .ok (.invokespecial idx2, 3)) (hd4 : decode mi.2.1 (pc + 7) = .ok (.aastore, 1)) (hj : ix j = σ.2.1) (hin : inr j 60) (hst : Nat.ble (catS st) 4 = true) (hp : pc + 8 = pc') (k : WM (d + 2 + 1) X Y (0, 0) mi pc' lv st (newP σ) res) : WM (d + 2 + 1) X Y (6, 42) mi pc lv (vI j :: vR 2 0 :: st) σ res := by
  subst hp
  intro ok ad H locs ls cells slots hD
  have hc : cells + 6 = X.2.2.2.1.cells := hD.2.2.2.2.2.2.1
  have hs : slots + 42 = X.2.2.2.1.slots := hD.2.2.2.2.2.2.2
  have hg : gal σ 2 0 := ⟨rfl, rfl⟩
  have hcell : H[ad 2 0]? = some (arrV (Y.1.2.1 2) 60 (fun j => cv ad (view σ 2 0 j))) := (hD.1.2.2.1 2 0 hg).2
  have hal2 : ad 2 0 < H.size := (Array.getElem?_eq_some_iff.mp hcell).1
  have hbase : Y.1.2.2.1.size ≤ H.size := hD.1.1
  have hcat := catS_eq (ad := ad) st
  have hst' := Nat.le_of_ble_eq_true hst
  refine w_new hw1 hd1 ok (by omega) (by omega) fun H' z1 o1 c1 => ?_
  refine lv_dup ok.1 ok.2.1 hd2 rfl ?_
  have hCR : CR Y.1 H [.inl (4, [.null, .int 0, .int 0, .int 0, .int 0])] H' := CR.push (ns := []) ⟨by simp, fun _ _ => rfl, fun k c h => by simp at h⟩ z1 o1 c1
  intro T hT Xs
  obtain ⟨v, st0, t, T', L, h0, X', hL', e1, e2, ⟨ho, hCR2⟩, go⟩ := w_ctorN (d := d + 2) (locs := locs) (cells := cells + 1) (slots := slots + 5) (st := .ref H.size :: .int j :: .ref (ad 2 0) :: st.map (cv ad)) (ao := false) hw2 (mc_X4_init (d := d) (B := H)) hd3 ok (fun e => by cases e) hCR hD.lv.1 (by
    simp only [List.map_cons, List.sum_cons]
    show 1 + (1 + (1 + _)) ≤ 8
    omega) (by show cells + 1 + 5 ≤ _; omega) (by show slots + 5 + 37 ≤ _; omega) T hT Xs
  cases ho
  rw [← e1] at hCR2
  have hobj := hCR2.2.2 0 _ rfl
  obtain ⟨cellV, g1, g2, g3, -⟩ := hobj
  have hcls := (ok.env.2.1 4 _ rfl).2
  obtain ⟨kA, comp, k1, k2, k3, -⟩ := (ok.env.2.2.1 2 (by decide)).2
  have hcomp : comp = Y.1.1.1 4 := Option.some.inj (k3.symm.trans hcls.1)
  subst hcomp
  obtain ⟨kC, hkC, hkd⟩ := hcls.2
  have hlt : j.toNatClampNeg < 60 := Nat.not_le.mp fun q => hin (Or.inr q)
  have hneg : ¬ j < 0 := fun q => hin (Or.inl q)
  have hW : W X.1 X.2.1 X.2.2.1 X.2.2.2.1 X.2.2.2.2.1 X.2.2.2.2.2.1 X.2.2.2.2.2.2.1 X.2.2.2.2.2.2.2.1 X.2.2.2.2.2.2.2.2.1 X.2.2.2.2.2.2.2.2.2 T'.heap (locs ++ L) (cells + 1 + 5) (slots + 5 + 37)
      (MQ X.2.2.2.2.2.2.2.1 (Qm Y res) X.2.2.2.2.2.2.1 X.2.2.2.2.1 X.2.2.2.1.cells X.2.2.2.1.slots (fun q => Y.1.2.2.1.size ≤ q)) (F0 X.2.2.2.2.2.1 (pc + 7) ls (.ref (H.size + 0) :: .int j :: .ref (ad 2 0) :: st.map (cv ad))) := by
    refine W.aast (cell := arrV (Y.1.2.1 2) 60 (fun j => cv ad (view σ 2 0 j))) ok.1 ok.2.1 (by rw [hCR2.2.1 _ hal2]; exact hcell) (fun q h => by cases h) (fun h => by cases h) k1 k2 rfl hkC ⟨hneg, by rw [arrV_size]; exact hlt⟩ g1 (fun q h => by rw [g3] at h; cases h) (by rw [g2]; exact hkC) (by rw [g2]; exact va_assign ⟨hcls.1, kC, hkC, hkd⟩) rfl rfl hd4 fun H2 f1 f2 f3 => ?_
    have hj' : j.toNatClampNeg = σ.2.1 := hj
    rw [hj'] at f1
    have hma : st.map (cv (adP ad σ H.size)) = st.map (cv ad) := map_agree (fun r i h => adP_old h) (ht1 (ht1 hD.hst))
    rw [← hma]
    refine k ok (adP ad σ H.size) H2 _ ls _ _ ⟨Rel.growP hD.1 hCR2 f1 f2 f3, fun r i h => ?_, fun q hq => ?_, ⟨hD.lv.1, hD.lv.2.1, fun i v hi => ?_⟩, fun v hv => ?_, fun v hv => ?_, ?_, ?_⟩
    · obtain ⟨h1, h2⟩ := hD.2.1 r i h
      refine ⟨?_, by rw [adP_old h1]; exact h2⟩
      rcases h1 with h1 | h1
      · exact Or.inl (gal_monoP h1)
      · exact Or.inr h1
    · rcases List.mem_append.mp hq with h1 | h1
      · rcases List.mem_append.mp h1 with h2 | h2
        · exact hD.2.2.1 q h2
        · exact Nat.le_trans hbase (hL' q h2)
      · rw [List.mem_singleton.mp h1]
        exact (hD.1.2.2.1 2 0 hg).1
    · rw [cv_agree (fun r i h => adP_old h) (hD.hlv v (List.mem_of_getElem? hi))]
      exact hD.lv.2.2 i v hi
    · refine hal_mono (fun r i h => ?_) (hD.hlv v hv)
      rcases h with h | h
      · exact Or.inl (gal_monoP h)
      · exact Or.inr h
    · refine hal_mono (fun r i h => ?_) (ht1 (ht1 hD.hst) v hv)
      rcases h with h | h
      · exact Or.inl (gal_monoP h)
      · exact Or.inr h
    · show cells + 1 + 5 + 0 = _
      omega
    · show slots + 5 + 37 + 0 = _
      omega
  obtain ⟨t2, s2, q2⟩ := hW T' rfl X'
  refine ⟨t2, go t2 s2, q2⟩
theorem l_newA {d : Nat} {X : MX} {Y : MY} {mi : MI} {pc pc' : Nat} {lv : List (Option MV)} {st : List MV} {σ : SS} {res : RES} {idx1 idx2 : Nat} {j : Int32} (hw1 : CB mi.1.cls idx1 1 5 [.null, .null, .int 0, .int 0, .int 0]) (hw2 : KN mi.1.cls idx2 "OctagonYard" mi_X1_init) (hd1 : decode mi.2.1 pc = .ok (.new idx1, 3)) (hd2 : decode mi.2.1 (pc + 3) = .ok (.dup, 1)) (hd3 : decode mi.2.1 (pc + 4) = .ok (.invokespecial idx2, 3)) (hd4 : decode mi.2.1 (pc + 7) = .ok (.aastore, 1)) (hj : ix j = σ.2.2) (hin : inr j 12) (hst : Nat.ble (catS st) 4 = true) (hp : pc + 8 = pc') (k : WM (d + 1 + 1) X Y (0, 0) mi pc' lv st (newA σ) res) : WM (d + 1 + 1) X Y (3, 45) mi pc lv (vI j :: vR 13 0 :: st) σ res := by
  subst hp
  intro ok ad H locs ls cells slots hD
  have hc : cells + 3 = X.2.2.2.1.cells := hD.2.2.2.2.2.2.1
  have hs : slots + 45 = X.2.2.2.1.slots := hD.2.2.2.2.2.2.2
  have hg : gal σ 13 0 := ⟨rfl, rfl⟩
  have hcell : H[ad 13 0]? = some (arrV (Y.1.2.1 3) 12 (fun j => cv ad (view σ 13 0 j))) := (hD.1.2.2.1 13 0 hg).2
  have hal2 : ad 13 0 < H.size := (Array.getElem?_eq_some_iff.mp hcell).1
  have hbase : Y.1.2.2.1.size ≤ H.size := hD.1.1
  have hcat := catS_eq (ad := ad) st
  have hst' := Nat.le_of_ble_eq_true hst
  refine w_new hw1 hd1 ok (by omega) (by omega) fun H' z1 o1 c1 => ?_
  refine lv_dup ok.1 ok.2.1 hd2 rfl ?_
  have hCR : CR Y.1 H [.inl (1, [.null, .null, .int 0, .int 0, .int 0])] H' := CR.push (ns := []) ⟨by simp, fun _ _ => rfl, fun k c h => by simp at h⟩ z1 o1 c1
  intro T hT Xs
  obtain ⟨v, st0, t, T', L, h0, X', hL', e1, e2, ⟨ho, hCR2⟩, go⟩ := w_ctorN (d := d + 1) (locs := locs) (cells := cells + 1) (slots := slots + 5) (st := .ref H.size :: .int j :: .ref (ad 13 0) :: st.map (cv ad)) (ao := false) hw2 (mc_X1_init (d := d) (B := H)) hd3 ok (fun e => by cases e) hCR hD.lv.1 (by
    simp only [List.map_cons, List.sum_cons]
    show 1 + (1 + (1 + _)) ≤ 8
    omega) (by show cells + 1 + 2 ≤ _; omega) (by show slots + 5 + 40 ≤ _; omega) T hT Xs
  cases ho
  rw [← e1] at hCR2
  have hobj := hCR2.2.2 0 _ rfl
  obtain ⟨cellV, g1, g2, g3, -⟩ := hobj
  have hcls := (ok.env.2.1 1 _ rfl).2
  obtain ⟨kA, comp, k1, k2, k3, -⟩ := (ok.env.2.2.1 3 (by decide)).2
  have hcomp : comp = Y.1.1.1 1 := Option.some.inj (k3.symm.trans hcls.1)
  subst hcomp
  obtain ⟨kC, hkC, hkd⟩ := hcls.2
  have hlt : j.toNatClampNeg < 12 := Nat.not_le.mp fun q => hin (Or.inr q)
  have hneg : ¬ j < 0 := fun q => hin (Or.inl q)
  have hW : W X.1 X.2.1 X.2.2.1 X.2.2.2.1 X.2.2.2.2.1 X.2.2.2.2.2.1 X.2.2.2.2.2.2.1 X.2.2.2.2.2.2.2.1 X.2.2.2.2.2.2.2.2.1 X.2.2.2.2.2.2.2.2.2 T'.heap (locs ++ L) (cells + 1 + 2) (slots + 5 + 40)
      (MQ X.2.2.2.2.2.2.2.1 (Qm Y res) X.2.2.2.2.2.2.1 X.2.2.2.2.1 X.2.2.2.1.cells X.2.2.2.1.slots (fun q => Y.1.2.2.1.size ≤ q)) (F0 X.2.2.2.2.2.1 (pc + 7) ls (.ref (H.size + 0) :: .int j :: .ref (ad 13 0) :: st.map (cv ad))) := by
    refine W.aast (cell := arrV (Y.1.2.1 3) 12 (fun j => cv ad (view σ 13 0 j))) ok.1 ok.2.1 (by rw [hCR2.2.1 _ hal2]; exact hcell) (fun q h => by cases h) (fun h => by cases h) k1 k2 rfl hkC ⟨hneg, by rw [arrV_size]; exact hlt⟩ g1 (fun q h => by rw [g3] at h; cases h) (by rw [g2]; exact hkC) (by rw [g2]; exact va_assign ⟨hcls.1, kC, hkC, hkd⟩) rfl rfl hd4 fun H2 f1 f2 f3 => ?_
    have hj' : j.toNatClampNeg = σ.2.2 := hj
    rw [hj'] at f1
    have hma : st.map (cv (adA ad σ H.size)) = st.map (cv ad) := map_agree (fun r i h => adA_old h) (ht1 (ht1 hD.hst))
    rw [← hma]
    refine k ok (adA ad σ H.size) H2 _ ls _ _ ⟨Rel.growA hD.1 hCR2 f1 f2 f3, fun r i h => ?_, fun q hq => ?_, ⟨hD.lv.1, hD.lv.2.1, fun i v hi => ?_⟩, fun v hv => ?_, fun v hv => ?_, ?_, ?_⟩
    · obtain ⟨h1, h2⟩ := hD.2.1 r i h
      refine ⟨?_, by rw [adA_old h1]; exact h2⟩
      rcases h1 with h1 | h1
      · exact Or.inl (gal_monoA h1)
      · exact Or.inr h1
    · rcases List.mem_append.mp hq with h1 | h1
      · rcases List.mem_append.mp h1 with h2 | h2
        · exact hD.2.2.1 q h2
        · exact Nat.le_trans hbase (hL' q h2)
      · rw [List.mem_singleton.mp h1]
        exact (hD.1.2.2.1 13 0 hg).1
    · rw [cv_agree (fun r i h => adA_old h) (hD.hlv v (List.mem_of_getElem? hi))]
      exact hD.lv.2.2 i v hi
    · refine hal_mono (fun r i h => ?_) (hD.hlv v hv)
      rcases h with h | h
      · exact Or.inl (gal_monoA h)
      · exact Or.inr h
    · refine hal_mono (fun r i h => ?_) (ht1 (ht1 hD.hst) v hv)
      rcases h with h | h
      · exact Or.inl (gal_monoA h)
      · exact Or.inr h
    · show cells + 1 + 2 + 0 = _
      omega
    · show slots + 5 + 40 + 0 = _
      omega
  obtain ⟨t2, s2, q2⟩ := hW T' rfl X'
  refine ⟨t2, go t2 s2, q2⟩
