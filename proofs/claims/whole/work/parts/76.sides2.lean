/-! ===== PURE: findSides: the rows ===== -/
def qd (T : Nat → Int) (k : Nat) : Bool := decide (ld T k ≠ 0)
def lA (T : Nat → Int) : List Nat := [0, 2, 1, 7, 4].filter (qd T)
def lB (T : Nat → Int) : List Nat := [6, 5, 3].filter (qd T)
theorem am_eq (T : Nat → Int) : am T 8 = lA T ++ lB T := by
  have e1 : am T 8 = (List.map ar (List.range 8)).filter (qd T) := by
    rw [List.filter_map]
    rfl
  have e2 : List.map ar (List.range 8) = [0, 2, 1, 7, 4] ++ [6, 5, 3] := by decide
  rw [e1, e2, List.filter_append]
  rfl
theorem pl_eq (T : Nat → Int) : (pl T).map rd = lB T ++ lA T := by
  have e1 : (pl T).map rd = (List.map rd (List.range 8)).filter (qd T) := by
    rw [List.filter_map]
    rfl
  have e2 : List.map rd (List.range 8) = [6, 5, 3] ++ [0, 2, 1, 7, 4] := by decide
  rw [e1, e2, List.filter_append]
  rfl
theorem gd_l {a b : List Nat} {i : Nat} (h : i < a.length) : gd (a ++ b) i = gd a i := by
  simp [gd, List.getD, List.getElem?_append_left h]
theorem gd_r {a b : List Nat} {i : Nat} : gd (a ++ b) (a.length + i) = gd b i := by
  simp [gd, List.getD, List.getElem?_append_right (Nat.le_add_right a.length i)]
theorem len_am (T : Nat → Int) : (am T 8).length = (pl T).length := by
  have e := congrArg List.length (pl_eq T)
  rw [List.length_map] at e
  rw [am_eq, e, List.length_append, List.length_append]
  omega
theorem lB_hd {e T : Nat → Int} (h : Fit e T) : 0 < (lB T).length ∧ gd (lB T) 0 = hdd T := by
  have h1 := (lex_hd h).1.1
  unfold lB hdd gd at *
  by_cases q6 : ld T 6 ≠ 0
  · have e6 : qd T 6 = true := decide_eq_true q6
    rw [if_pos q6]
    simp [List.filter, e6]
  · have e6 : qd T 6 = false := decide_eq_false q6
    rw [if_neg q6] at h1 ⊢
    by_cases q5 : ld T 5 ≠ 0
    · have e5 : qd T 5 = true := decide_eq_true q5
      rw [if_pos q5]
      simp [List.filter, e6, e5]
    · have e5 : qd T 5 = false := decide_eq_false q5
      rw [if_neg q5] at h1 ⊢
      have e3 : qd T 3 = true := decide_eq_true h1
      simp [List.filter, e6, e5, e3]
theorem am_in {T : Nat → Int} {j : Nat} (h : j < (am T 8).length) : gd (am T 8) j < 8 ∧ ld T (gd (am T 8) j) ≠ 0 := by
  unfold am at h ⊢
  rw [List.length_map] at h
  rw [gd_map h]
  have := sel_in (sa T) 8 j h
  exact ⟨ar_lt _ this.1, of_decide_eq_true this.2⟩
theorem am_inj {T : Nat → Int} {i j : Nat} (hi : i < (am T 8).length) (hj : j < (am T 8).length) (h : gd (am T 8) i = gd (am T 8) j) : i = j := by
  unfold am at hi hj h
  rw [List.length_map] at hi hj
  rw [gd_map hi, gd_map hj] at h
  have e := ar_inj _ (sel_in (sa T) 8 i hi).1 _ (sel_in (sa T) 8 j hj).1 h
  rcases Nat.lt_trichotomy i j with q | q | q
  · have := sel_mono (sa T) 8 i j q hj
    omega
  · exact q
  · have := sel_mono (sa T) 8 j i q hi
    omega
theorem fd_am {T : Nat → Int} {j : Nat} (h : j < (pl T).length) : gd (am T 8) ((j + (lA T).length) % (pl T).length) = fd T j := by
  have e1 : fd T j = gd ((pl T).map rd) j := by rw [gd_map h]; rfl
  have e2 := congrArg List.length (pl_eq T)
  rw [List.length_map, List.length_append] at e2
  rw [e1, pl_eq, am_eq]
  by_cases q : j < (lB T).length
  · rw [gd_l q, Nat.mod_eq_of_lt (by omega), Nat.add_comm, gd_r]
  · obtain ⟨i, rfl⟩ : ∃ i, j = (lB T).length + i := ⟨j - (lB T).length, by omega⟩
    have e3 : ((lB T).length + i + (lA T).length) % (pl T).length = i := by
      rw [show (lB T).length + i + (lA T).length = i + (pl T).length by omega, Nat.add_mod_right, Nat.mod_eq_of_lt (by omega)]
    rw [gd_r, e3, gd_l (by omega)]
theorem fit_sm {e T : Nat → Int} (h : Fit e T) (he : ∀ k, k < 8 → -10000 ≤ e k ∧ e k ≤ 10000) : Sm T := by
  have a := of8 h.2.2.1
  have b := of8 he
  have w := h.2.1
  unfold Sm
  apply all8 <;> omega
/-- the rows of a shape's sides, the first corner first -/
def SF (σ : SS) (T : Nat → Int) : Prop := σ.1 25 0 17 = nI (pl T).length ∧ ∀ j, j < (pl T).length → σ.1 58 0 j = nI (fd T j) ∧ σ.1 59 0 j = iz (vx T (fd T j)) ∧ σ.1 60 0 j = iz (vy T (fd T j)) ∧ σ.1 61 0 j = iz (vx T (nxt (fd T j))) ∧ σ.1 62 0 j = iz (vy T (nxt (fd T j)))
def PG (r _i k : Nat) : Prop := r = 55 ∨ r = 56 ∨ (58 ≤ r ∧ r ≤ 62) ∨ (r = 25 ∧ (k = 14 ∨ k = 17))
theorem PP_G {r i k : Nat} (h : PP r i k) : PG r i k := by unfold PP at h; unfold PG; omega
theorem PSd_G {r i k : Nat} (h : PSd r i k) : PG r i k := by unfold PSd PRw at h; unfold PG; omega
theorem PRw_G {r i k : Nat} (h : PRw r i k) : PG r i k := by unfold PRw at h; unfold PG; omega
theorem rows_fit {σ : SS} {e T : Nat → Int} (hF : Fit e T) (hm : Sm T) (hS : SD σ T (am T 8)) : ∃ σ', f_X8_findSides_33 σ = some ((), σ') ∧ SF σ' T ∧ fri PRw σ σ' := by
  have hl := len_am T
  have h8 := pl_len T
  obtain ⟨σ', m, q1, q2, q3, q4, q5⟩ := p_rows (n := (pl T).length) h8 (by rw [hS.1, hl])
  obtain ⟨b1, b2⟩ := lB_hd hF
  have e2 := congrArg List.length (am_eq T)
  rw [List.length_append] at e2
  obtain ⟨⟨x1, x2, x3⟩, x4⟩ := lex_hd hF
  have hA : (lA T).length < (am T 8).length := by omega
  have eA : gd (am T 8) (lA T).length = hdd T := by
    have := gd_r (a := lA T) (b := lB T) (i := 0)
    rw [Nat.add_zero] at this
    rw [am_eq, this, b2]
  have mA : m = (lA T).length := by
    refine Classical.byContradiction (fun hne => ?_)
    have hmn : m < (am T 8).length := by omega
    have hk := am_in hmn
    have hh := am_in hA
    have := x4 _ hk.1 hk.2 (fun z => hne (am_inj hmn hA (by rw [z, eA])))
    refine q2 (lA T).length (by omega) ?_
    have r1 := hS.2 _ hA
    have r2 := hS.2 _ hmn
    rw [eA] at hh
    have s1 := sm_v hm _ hh.1
    have s2 := sm_v hm _ hk.1
    unfold lxI
    rw [r1.2.1, r1.2.2.1, r2.2.1, r2.2.2.1, eA, iz_lt ⟨by omega, by omega⟩ ⟨by omega, by omega⟩, iz_lt ⟨by omega, by omega⟩ ⟨by omega, by omega⟩, iz_eq ⟨by omega, by omega⟩ ⟨by omega, by omega⟩, x2, x3]
    exact this
  refine ⟨σ', q1, ⟨?_, fun j hj => ?_⟩, q5⟩
  · rw [q5.1 25 0 17 (by unfold PRw; omega), hS.1, hl]
  · have hjm : (j + m) % (pl T).length < (am T 8).length := by
      rw [hl]
      exact Nat.mod_lt _ (by omega)
    have r := hS.2 _ hjm
    have ef : gd (am T 8) ((j + m) % (pl T).length) = fd T j := by rw [mA]; exact fd_am hj
    rw [ef] at r
    rw [q4 58 (by omega) (by omega) j hj, q4 59 (by omega) (by omega) j hj, q4 60 (by omega) (by omega) j hj, q4 61 (by omega) (by omega) j hj, q4 62 (by omega) (by omega) j hj]
    exact r
theorem sides_un (σ : SS) : f_X8_findSides σ = cal (f_X8_findPoints σ) (fun _ s1 => f_X8_findSides_11 FU (nI 0) (up s1 25 0 17 0)) := by
  rw [f_X8_findSides]
  simp only [lt_eq, nI_0]
theorem p_findSides {σ : SS} {e T : Nat → Int} (hF : Fit e T) (hM : MTb σ) (he : EB σ e) : ∃ σ' ps, f_X8_findSides σ = some ((), σ') ∧ SF σ' T ∧ PTS σ' ps ∧ PA e ps ∧ fri PG σ σ' := by
  obtain ⟨σ1, ps, q1, q2, q3, q4⟩ := p_findPoints hM he
  have f1 : fri PG σ σ1 := q4.mono (fun _ _ _ => PP_G)
  have f2 : fri PSd σ1 (up σ1 25 0 17 0) := fri.up (fri.rf _ _) (by unfold PSd; omega)
  have h0 : SD (up σ1 25 0 17 0) T (am T 0) := ⟨by simp only [up_rd, and_self, if_true]; rfl, fun j hj => absurd hj (Nat.not_lt_zero _)⟩
  have hM1 : MTb σ1 := hM.fr q4 (by intro r k _ _; unfold PP; omega)
  have he1 : EB σ1 e := he.fr q4 (by intro k; unfold PP; omega)
  rw [sides_un, q1, cal_some]
  generalize up σ1 25 0 17 0 = σ2 at f2 h0
  have hP2 : PTS σ2 ps := q2.fr f2 (by intro r k hrk; unfold PSd PRw; omega)
  obtain ⟨σ3, r1, r2, r3⟩ := sides_loop hF q3 8 0 FU σ2 rfl (by show 8 < 5000; omega) (hM1.fr f2 (by intro r k _ _; unfold PSd PRw; omega)) (he1.fr f2 (by intro k; unfold PSd PRw; omega)) hP2 h0
  obtain ⟨σ4, t1, t2, t3⟩ := rows_fit hF (fit_sm hF (fun k hk => (he k hk).2)) r2
  rw [r1]
  have hP3 : PTS σ3 ps := hP2.fr r3 (by intro r k hrk; unfold PSd PRw; omega)
  exact ⟨σ4, ps, t1, t2, hP3.fr t3 (by intro r k hrk; unfold PRw; omega), q3, f1.tr ((f2.mono (fun _ _ _ => PSd_G)).tr ((r3.mono (fun _ _ _ => PSd_G)).tr (t3.mono (fun _ _ _ => PRw_G))))⟩
