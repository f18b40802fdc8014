/-! ===== PURE: the sides that there are, as rows ===== -/
def rd (i : Nat) : Nat := match i with
  | 0 => 6
  | 1 => 5
  | 2 => 3
  | 3 => 0
  | 4 => 2
  | 5 => 1
  | 6 => 7
  | _ => 4
theorem rd_nxt : ∀ i, i < 8 → nxt (rd i) = rd ((i + 1) % 8) := by decide
theorem rd_lt : ∀ i, i < 8 → rd i < 8 := by decide
theorem rd_inj : ∀ i, i < 8 → ∀ j, j < 8 → rd i = rd j → i = j := by decide
theorem rd_onto : ∀ k, k < 8 → ∃ i, i < 8 ∧ rd i = k := all8 ⟨3, by decide, rfl⟩ ⟨5, by decide, rfl⟩ ⟨4, by decide, rfl⟩ ⟨2, by decide, rfl⟩ ⟨7, by decide, rfl⟩ ⟨1, by decide, rfl⟩ ⟨0, by decide, rfl⟩ ⟨6, by decide, rfl⟩
def sel (p : Nat → Bool) (n : Nat) : List Nat := (List.range n).filter p
theorem sel_t {p : Nat → Bool} {n : Nat} (h : p n = true) : sel p (n + 1) = sel p n ++ [n] := by
  simp [sel, List.range_succ, List.filter_append, h]
theorem sel_f {p : Nat → Bool} {n : Nat} (h : p n = false) : sel p (n + 1) = sel p n := by
  simp [sel, List.range_succ, List.filter_append, h]
def gd (l : List Nat) (i : Nat) : Nat := l.getD i 0
theorem gd_lt {l : List Nat} {a i : Nat} (h : i < l.length) : gd (l ++ [a]) i = gd l i := by
  simp [gd, List.getD, List.getElem?_append_left h]
theorem gd_eq {l : List Nat} {a : Nat} : gd (l ++ [a]) l.length = a := by
  simp [gd, List.getD]
theorem len_app {l : List Nat} {a : Nat} : (l ++ [a]).length = l.length + 1 := by simp
theorem sel_len (p : Nat → Bool) : ∀ n, (sel p n).length ≤ n := by
  intro n
  induction n with
  | zero => exact Nat.le_refl _
  | succ n ih =>
    cases h : p n with
    | true => rw [sel_t h, len_app]; omega
    | false => rw [sel_f h]; omega
theorem sel_in (p : Nat → Bool) : ∀ n i, i < (sel p n).length → gd (sel p n) i < n ∧ p (gd (sel p n) i) = true := by
  intro n
  induction n with
  | zero => intro i h; exact absurd h (Nat.not_lt_zero _)
  | succ n ih =>
    intro i hi
    cases h : p n with
    | true =>
      rw [sel_t h] at hi ⊢
      rw [len_app] at hi
      by_cases q : i = (sel p n).length
      · rw [q, gd_eq]
        exact ⟨by omega, h⟩
      · rw [gd_lt (by omega)]
        have := ih i (by omega)
        exact ⟨by omega, this.2⟩
    | false =>
      rw [sel_f h] at hi ⊢
      have := ih i hi
      exact ⟨by omega, this.2⟩
theorem sel_mem (p : Nat → Bool) : ∀ n j, j < n → p j = true → ∃ i, i < (sel p n).length ∧ gd (sel p n) i = j := by
  intro n
  induction n with
  | zero => intro j h; exact absurd h (Nat.not_lt_zero _)
  | succ n ih =>
    intro j hj hp
    by_cases q : j = n
    · subst q
      rw [sel_t hp]
      exact ⟨(sel p j).length, by rw [len_app]; omega, gd_eq⟩
    · obtain ⟨i, h1, h2⟩ := ih j (by omega) hp
      cases h : p n with
      | true =>
        rw [sel_t h]
        exact ⟨i, by rw [len_app]; omega, by rw [gd_lt h1]; exact h2⟩
      | false =>
        rw [sel_f h]
        exact ⟨i, h1, h2⟩
theorem sel_mono (p : Nat → Bool) : ∀ n i j, i < j → j < (sel p n).length → gd (sel p n) i < gd (sel p n) j := by
  intro n
  induction n with
  | zero => intro i j _ h; exact absurd h (Nat.not_lt_zero _)
  | succ n ih =>
    intro i j hij hj
    cases h : p n with
    | true =>
      rw [sel_t h] at hj ⊢
      rw [len_app] at hj
      by_cases q : j = (sel p n).length
      · rw [q, gd_eq, gd_lt (by omega)]
        exact (sel_in p n i (by omega)).1
      · rw [gd_lt (by omega), gd_lt (by omega)]
        exact ih i j hij (by omega)
    | false =>
      rw [sel_f h] at hj ⊢
      exact ih i j hij hj
def sumN (f : Nat → Int) : Nat → Int
  | 0 => 0
  | n + 1 => sumN f n + f n
theorem sumN_cg {f g : Nat → Int} : ∀ {n}, (∀ i, i < n → f i = g i) → sumN f n = sumN g n := by
  intro n
  induction n with
  | zero => intro _; rfl
  | succ n ih =>
    intro h
    show sumN f n + f n = sumN g n + g n
    rw [ih (fun i hi => h i (by omega)), h n (by omega)]
theorem sum_sel {p : Nat → Bool} {g : Nat → Int} : ∀ {n}, (∀ i, i < n → p i = false → g i = 0) → sumN (fun j => g (gd (sel p n) j)) (sel p n).length = sumN g n := by
  intro n
  induction n with
  | zero => intro _; rfl
  | succ n ih =>
    intro hz
    have i1 := ih (fun i hi => hz i (by omega))
    cases h : p n with
    | true =>
      rw [sel_t h, len_app]
      show sumN _ (sel p n).length + g (gd _ (sel p n).length) = sumN g n + g n
      rw [gd_eq, ← i1]
      congr 1
      exact sumN_cg (fun i hi => by rw [gd_lt hi])
    | false =>
      rw [sel_f h]
      show _ = sumN g n + g n
      rw [hz n (by omega) h, i1]
      omega
/-- what is left out changes nothing: the next one that is there begins where this one ends -/
theorem sel_chain {α : Type} {p : Nat → Bool} (V : Nat → α) : ∀ n, (∀ i, i < n → p i = false → V (i + 1) = V i) → (∀ j, j + 1 < (sel p n).length → V (gd (sel p n) j + 1) = V (gd (sel p n) (j + 1))) ∧ (∀ j, j + 1 = (sel p n).length → V (gd (sel p n) j + 1) = V n) ∧ (0 < (sel p n).length → V (gd (sel p n) 0) = V 0) ∧ ((sel p n).length = 0 → V n = V 0) := by
  intro n
  induction n with
  | zero => intro _; exact ⟨fun j h => absurd h (Nat.not_lt_zero _), fun j h => absurd h (by show ¬ j + 1 = 0; omega), fun h => absurd h (Nat.lt_irrefl 0), fun _ => rfl⟩
  | succ n ih =>
    intro hz
    obtain ⟨i1, i2, i3, i4⟩ := ih (fun i hi => hz i (by omega))
    cases h : p n with
    | true =>
      rw [sel_t h, len_app]
      refine ⟨fun j hj => ?_, fun j hj => ?_, fun _ => ?_, fun h0 => ?_⟩
      · by_cases q : j + 1 = (sel p n).length
        · rw [q, gd_eq, gd_lt (by omega)]
          exact i2 j q
        · rw [gd_lt (by omega), gd_lt (by omega)]
          exact i1 j (by omega)
      · have : j = (sel p n).length := by omega
        rw [this, gd_eq]
      · by_cases q : (sel p n).length = 0
        · have : gd (sel p n ++ [n]) 0 = n := by rw [← q]; exact gd_eq
          rw [this]
          exact i4 q
        · rw [gd_lt (by omega)]
          exact i3 (by omega)
      · omega
    | false =>
      rw [sel_f h]
      have hv := hz n (by omega) h
      refine ⟨i1, fun j hj => ?_, i3, fun h0 => ?_⟩
      · rw [hv]; exact i2 j hj
      · rw [hv]; exact i4 h0
/-- the sides that there are (places in the round) -/
def sp (T : Nat → Int) (i : Nat) : Bool := decide (ld T (rd i) ≠ 0)
def pl (T : Nat → Int) : List Nat := sel (sp T) 8
def fd (T : Nat → Int) (j : Nat) : Nat := rd (gd (pl T) j)
def fol (n j : Nat) : Nat := if j + 1 < n then j + 1 else 0
theorem pl_in {T : Nat → Int} {j : Nat} (h : j < (pl T).length) : gd (pl T) j < 8 ∧ ld T (fd T j) ≠ 0 := by
  have := sel_in (sp T) 8 j h
  refine ⟨this.1, ?_⟩
  have h2 := this.2
  unfold sp at h2
  exact of_decide_eq_true h2
theorem pl_len (T : Nat → Int) : (pl T).length ≤ 8 := sel_len _ 8
theorem fd_lt {T : Nat → Int} {j : Nat} (h : j < (pl T).length) : fd T j < 8 := rd_lt _ (pl_in h).1
theorem pl_on {T : Nat → Int} {k : Nat} (hk : k < 8) (h : ld T k ≠ 0) : ∃ j, j < (pl T).length ∧ fd T j = k := by
  obtain ⟨i, h1, h2⟩ := rd_onto k hk
  obtain ⟨j, h3, h4⟩ := sel_mem (sp T) 8 i h1 (by unfold sp; rw [h2]; exact decide_eq_true h)
  exact ⟨j, h3, by unfold fd; show rd (gd (sel (sp T) 8) j) = k; rw [h4, h2]⟩
theorem fd_inj {T : Nat → Int} {i j : Nat} (hi : i < (pl T).length) (hj : j < (pl T).length) (h : fd T i = fd T j) : i = j := by
  have e := rd_inj _ (pl_in hi).1 _ (pl_in hj).1 h
  rcases Nat.lt_trichotomy i j with q | q | q
  · have := sel_mono (sp T) 8 i j q hj
    unfold pl at e
    omega
  · exact q
  · have := sel_mono (sp T) 8 j i q hi
    unfold pl at e
    omega
theorem fol_lt {n j : Nat} (h : j < n) : fol n j < n := by unfold fol; split <;> omega
/-- a side ends where the next one begins -/
theorem pl_fol {T : Nat → Int} {j : Nat} (h : j < (pl T).length) : vx T (nxt (fd T j)) = vx T (fd T (fol (pl T).length j)) ∧ vy T (nxt (fd T j)) = vy T (fd T (fol (pl T).length j)) := by
  have hz : ∀ i, i < 8 → sp T i = false → (fun i => (vx T (rd (i % 8)), vy T (rd (i % 8)))) (i + 1) = (fun i => (vx T (rd (i % 8)), vy T (rd (i % 8)))) i := by
    intro i hi hp
    have h0 : ld T (rd i) = 0 := by
      unfold sp at hp
      have := of_decide_eq_false hp
      exact Classical.not_not.mp this
    have := (v_ld T (rd i) (rd_lt i hi)).mpr h0
    show (vx T (rd ((i + 1) % 8)), vy T (rd ((i + 1) % 8))) = (vx T (rd (i % 8)), vy T (rd (i % 8)))
    rw [← rd_nxt i hi, Nat.mod_eq_of_lt hi, this.1, this.2]
  obtain ⟨c1, c2, c3, -⟩ := sel_chain (p := sp T) (fun i => (vx T (rd (i % 8)), vy T (rd (i % 8)))) 8 hz
  have hj := (pl_in h).1
  have key : (vx T (rd ((gd (pl T) j + 1) % 8)), vy T (rd ((gd (pl T) j + 1) % 8))) = (vx T (fd T (fol (pl T).length j)), vy T (fd T (fol (pl T).length j))) := by
    unfold fol
    by_cases q : j + 1 < (pl T).length
    · rw [if_pos q]
      have := c1 j q
      unfold fd
      have e : gd (pl T) (j + 1) % 8 = gd (pl T) (j + 1) := Nat.mod_eq_of_lt (pl_in q).1
      rw [← e]
      exact this
    · rw [if_neg q]
      have h1 := c2 j (by unfold pl at q h; omega)
      have h2 := c3 (by unfold pl at h; omega)
      unfold fd
      have e : gd (pl T) 0 % 8 = gd (pl T) 0 := Nat.mod_eq_of_lt (pl_in (by omega)).1
      rw [← e]
      exact h1.trans h2.symm
  unfold fd at *
  rw [rd_nxt _ hj]
  exact ⟨congrArg Prod.fst key, congrArg Prod.snd key⟩
