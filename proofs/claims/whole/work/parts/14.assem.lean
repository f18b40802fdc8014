/-! OctagonYard$Assemblies.isFull()Z -/
def mi_X0_isFull : MI := (yX0_isFull, cX0_isFull, 1, (some .boolean))
theorem d_X0_isFull_0 : decode mi_X0_isFull.2.1 0 = .ok (.aload_n 0, 1) := by decide +kernel
theorem d_X0_isFull_1 : decode mi_X0_isFull.2.1 1 = .ok (.getfield 24, 3) := by decide +kernel
theorem d_X0_isFull_4 : decode mi_X0_isFull.2.1 4 = .ok (.bipush 12, 2) := by decide +kernel
theorem d_X0_isFull_6 : decode mi_X0_isFull.2.1 6 = .ok (.if_icmp .lt 7, 3) := by decide +kernel
theorem d_X0_isFull_9 : decode mi_X0_isFull.2.1 9 = .ok (.iconst 1, 1) := by decide +kernel
theorem d_X0_isFull_10 : decode mi_X0_isFull.2.1 10 = .ok (.goto 4, 3) := by decide +kernel
theorem d_X0_isFull_13 : decode mi_X0_isFull.2.1 13 = .ok (.iconst 0, 1) := by decide +kernel
theorem d_X0_isFull_14 : decode mi_X0_isFull.2.1 14 = .ok (.ireturn, 1) := by decide +kernel
theorem cb_12 : (Int8.ofInt (12)).toInt32 = 12 := by decide
theorem in_0 : ∀ w ∈ u_ws RX0 TX0 5, w ∈ mtbl := by decide +kernel
theorem fl_X0_24 : FL RX0 24 0 5 1 := ⟨RX0, TX0, rfl, by decide, rfl, by decide +kernel, in_0⟩
def f_X0_isFull (σ : SS) : Option (Int32 × SS) := if (σ.1 12 0 1) < (12 : Int32) then (some ((0 : Int32), σ)) else (some ((1 : Int32), σ))
set_option maxRecDepth 20000 in
theorem t_X0_isFull {d : Nat} {b : Nat × Nat} {σ : SS} {r : Int32} {σ' : SS} (h : f_X0_isFull σ = some (r, σ')) : MM d b mi_X0_isFull [vR 12 0] σ (some (vI r), σ') := by
  refine MM.of (lv := [some (vR 12 0)]) (by decide +kernel) rfl rfl (fun X Y => ?_)
  rw [f_X0_isFull] at h
  refine r_aload_n (pc' := 1) d_X0_isFull_0 rfl rfl rfl ?_
  refine r_get (v := vI _) (pc' := 4) fl_X0_24 d_X0_isFull_1 rfl rfl (fun _ => trivial) rfl ?_
  refine r_bipush (pc' := 6) d_X0_isFull_4 cb_12 rfl ?_
  refine r_icmp_lt (pcT := 13) (pc' := 9) d_X0_isFull_6 rfl rfl h (fun _ h => ?_) (fun _ h => ?_)
  · refine r_iconst (pc' := 14) d_X0_isFull_13 ci_0 rfl ?_
    exact r_zret d_X0_isFull_14 rfl (Or.inl rfl) h
  · refine r_iconst (pc' := 10) d_X0_isFull_9 ci_1 rfl ?_
    refine r_goto (pc' := 14) d_X0_isFull_10 rfl ?_
    exact r_zret d_X0_isFull_14 rfl (Or.inr rfl) h
/-! OctagonYard$Assemblies.add()I -/
def mi_X0_add : MI := (yX0_add, cX0_add, 1, (some .int))
theorem d_X0_add_0 : decode mi_X0_add.2.1 0 = .ok (.aload_n 0, 1) := by decide +kernel
theorem d_X0_add_1 : decode mi_X0_add.2.1 1 = .ok (.getfield 13, 3) := by decide +kernel
theorem d_X0_add_4 : decode mi_X0_add.2.1 4 = .ok (.aload_n 0, 1) := by decide +kernel
theorem d_X0_add_5 : decode mi_X0_add.2.1 5 = .ok (.getfield 24, 3) := by decide +kernel
theorem d_X0_add_8 : decode mi_X0_add.2.1 8 = .ok (.new 11, 3) := by decide +kernel
theorem d_X0_add_11 : decode mi_X0_add.2.1 11 = .ok (.dup, 1) := by decide +kernel
theorem d_X0_add_12 : decode mi_X0_add.2.1 12 = .ok (.invokespecial 28, 3) := by decide +kernel
theorem d_X0_add_15 : decode mi_X0_add.2.1 15 = .ok (.aastore, 1) := by decide +kernel
theorem d_X0_add_16 : decode mi_X0_add.2.1 16 = .ok (.aload_n 0, 1) := by decide +kernel
theorem d_X0_add_17 : decode mi_X0_add.2.1 17 = .ok (.dup, 1) := by decide +kernel
theorem d_X0_add_18 : decode mi_X0_add.2.1 18 = .ok (.getfield 24, 3) := by decide +kernel
theorem d_X0_add_21 : decode mi_X0_add.2.1 21 = .ok (.dup_x1, 1) := by decide +kernel
theorem d_X0_add_22 : decode mi_X0_add.2.1 22 = .ok (.iconst 1, 1) := by decide +kernel
theorem d_X0_add_23 : decode mi_X0_add.2.1 23 = .ok (.iadd, 1) := by decide +kernel
theorem d_X0_add_24 : decode mi_X0_add.2.1 24 = .ok (.putfield 24, 3) := by decide +kernel
theorem d_X0_add_27 : decode mi_X0_add.2.1 27 = .ok (.ireturn, 1) := by decide +kernel
theorem fl_X0_13 : FL RX0 13 0 5 0 := ⟨RX0, TX0, rfl, by decide, rfl, by decide +kernel, in_0⟩
theorem fw_0_1 : FW 0 5 1 .int := ⟨RX0, TX0, tyX0, rfl, rfl, by decide +kernel, tyX0_ok, nmX0⟩
theorem cbn_X0_11 : CB RX0 11 1 5 [.null, .null, .int 0, .int 0, .int 0] := ⟨RX1, TX1, tyX1, rfl, by decide +kernel, by decide +kernel, by decide +kernel, inn_1, tyX1_ok, rfl, by decide +kernel⟩
theorem kn_X0_28 : KN RX0 28 "OctagonYard" mi_X1_init := by unfold KN; decide +kernel
def f_X0_add (σ : SS) : Option (Int32 × SS) := chk (ix (σ.1 12 0 1) = σ.2.2 ∧ inr (σ.1 12 0 1) 12) (lt_ (newA σ) (fun s1 => lt_ (up s1 12 0 1 ((s1.1 12 0 1) + (1 : Int32))) (fun s2 => some ((s1.1 12 0 1), s2))))
set_option maxRecDepth 20000 in
theorem t_X0_add {d : Nat} {σ : SS} {r : Int32} {σ' : SS} (h : f_X0_add σ = some (r, σ')) : MM (d + 2) (3, 45) mi_X0_add [vR 12 0] σ (some (vI r), σ') := by
  refine MM.of (lv := [some (vR 12 0)]) (by decide +kernel) rfl rfl (fun X Y => ?_)
  rw [f_X0_add] at h
  refine r_aload_n (pc' := 1) d_X0_add_0 rfl rfl rfl ?_
  refine r_get (v := vR 13 _) (pc' := 4) fl_X0_13 d_X0_add_1 rfl rfl (fun g => Or.inl ⟨rfl, g.2⟩) rfl ?_
  refine r_aload_n (pc' := 5) d_X0_add_4 rfl rfl rfl ?_
  refine r_get (v := vI _) (pc' := 8) fl_X0_24 d_X0_add_5 rfl rfl (fun _ => trivial) rfl ?_
  obtain ⟨⟨hj, hin⟩, h⟩ := chk_t h
  refine l_newA (pc' := 16) cbn_X0_11 kn_X0_28 d_X0_add_8 d_X0_add_11 d_X0_add_12 d_X0_add_15 hj hin rfl rfl ?_
  generalize newA σ = s1 at h ⊢
  rw [lt_] at h
  refine r_aload_n (pc' := 17) d_X0_add_16 rfl rfl rfl ?_
  refine r_dup (pc' := 18) d_X0_add_17 rfl rfl ?_
  refine r_get (v := vI _) (pc' := 21) fl_X0_24 d_X0_add_18 rfl rfl (fun _ => trivial) rfl ?_
  refine r_dup_x1 (pc' := 22) d_X0_add_21 rfl rfl rfl ?_
  refine r_iconst (pc' := 23) d_X0_add_22 ci_1 rfl ?_
  refine r_iadd (pc' := 24) d_X0_add_23 rfl ?_
  refine l_put (k := 1) (pc' := 27) fl_X0_24 fw_0_1 rfl rfl d_X0_add_24 rfl (by decide) (by decide) rfl rfl h (fun s2 h => ?_)
  exact r_iret d_X0_add_27 rfl h
/-! OctagonYard$Assemblies.has(I)Z -/
def mi_X0_has : MI := (yX0_has, cX0_has, 2, (some .boolean))
theorem d_X0_has_0 : decode mi_X0_has.2.1 0 = .ok (.iload_n 1, 1) := by decide +kernel
theorem d_X0_has_1 : decode mi_X0_has.2.1 1 = .ok (.iconst 0, 1) := by decide +kernel
theorem d_X0_has_2 : decode mi_X0_has.2.1 2 = .ok (.aload_n 0, 1) := by decide +kernel
theorem d_X0_has_3 : decode mi_X0_has.2.1 3 = .ok (.getfield 24, 3) := by decide +kernel
theorem d_X0_has_6 : decode mi_X0_has.2.1 6 = .ok (.iconst 1, 1) := by decide +kernel
theorem d_X0_has_7 : decode mi_X0_has.2.1 7 = .ok (.isub, 1) := by decide +kernel
theorem d_X0_has_8 : decode mi_X0_has.2.1 8 = .ok (.invokestatic 29, 3) := by decide +kernel
theorem d_X0_has_11 : decode mi_X0_has.2.1 11 = .ok (.ireturn, 1) := by decide +kernel
theorem cw_X0_29 : CN RX0 29 "OctagonYard" mi_X7_isFrom 3 := by unfold CN; decide +kernel
def f_X0_has (v1 : Int32) (σ : SS) : Option (Int32 × SS) := cal (f_X7_isFrom v1 (0 : Int32) ((σ.1 12 0 1) - (1 : Int32)) σ) (fun x2 s1 => chk (x2 = 0 ∨ x2 = 1) (some (x2, s1)))
set_option maxRecDepth 20000 in
theorem t_X0_has {d : Nat} {b : Nat × Nat} {v1 : Int32} {σ : SS} {r : Int32} {σ' : SS} (h : f_X0_has v1 σ = some (r, σ')) : MM (d + 1) b mi_X0_has [vR 12 0, vI v1] σ (some (vI r), σ') := by
  refine MM.of (lv := [some (vR 12 0), some (vI v1)]) (by decide +kernel) rfl rfl (fun X Y => ?_)
  rw [f_X0_has] at h
  refine r_iload_n (pc' := 1) d_X0_has_0 rfl rfl rfl ?_
  refine r_iconst (pc' := 2) d_X0_has_1 ci_0 rfl ?_
  refine r_aload_n (pc' := 3) d_X0_has_2 rfl rfl rfl ?_
  refine r_get (v := vI _) (pc' := 6) fl_X0_24 d_X0_has_3 rfl rfl (fun _ => trivial) rfl ?_
  refine r_iconst (pc' := 7) d_X0_has_6 ci_1 rfl ?_
  refine r_isub (pc' := 8) d_X0_has_7 rfl ?_
  refine n3_i (mc := mi_X7_isFrom) (bc := (0, 0)) (b' := _) (pc' := 11) cw_X0_29 d_X0_has_8 rfl (Nat.zero_add _).symm (Nat.zero_add _).symm rfl h (fun _ _ e => t_X7_isFrom e) (fun x2 s1 h => ?_)
  obtain ⟨z3, h⟩ := chk_t h
  exact r_zret d_X0_has_11 rfl z3 h
/-! OctagonYard$Assemblies.hold(I)Z -/
def mi_X0_hold : MI := (yX0_hold, cX0_hold, 5, (some .boolean))
theorem d_X0_hold_0 : decode mi_X0_hold.2.1 0 = .ok (.iconst 0, 1) := by decide +kernel
theorem d_X0_hold_1 : decode mi_X0_hold.2.1 1 = .ok (.istore_n 2, 1) := by decide +kernel
theorem d_X0_hold_2 : decode mi_X0_hold.2.1 2 = .ok (.iload_n 2, 1) := by decide +kernel
theorem d_X0_hold_3 : decode mi_X0_hold.2.1 3 = .ok (.aload_n 0, 1) := by decide +kernel
theorem d_X0_hold_4 : decode mi_X0_hold.2.1 4 = .ok (.getfield 24, 3) := by decide +kernel
theorem d_X0_hold_7 : decode mi_X0_hold.2.1 7 = .ok (.if_icmp .ge 57, 3) := by decide +kernel
theorem d_X0_hold_10 : decode mi_X0_hold.2.1 10 = .ok (.aload_n 0, 1) := by decide +kernel
theorem d_X0_hold_11 : decode mi_X0_hold.2.1 11 = .ok (.getfield 13, 3) := by decide +kernel
theorem d_X0_hold_14 : decode mi_X0_hold.2.1 14 = .ok (.iload_n 2, 1) := by decide +kernel
theorem d_X0_hold_15 : decode mi_X0_hold.2.1 15 = .ok (.aaload, 1) := by decide +kernel
theorem d_X0_hold_16 : decode mi_X0_hold.2.1 16 = .ok (.astore_n 3, 1) := by decide +kernel
theorem d_X0_hold_17 : decode mi_X0_hold.2.1 17 = .ok (.iconst 0, 1) := by decide +kernel
theorem d_X0_hold_18 : decode mi_X0_hold.2.1 18 = .ok (.istore 4, 2) := by decide +kernel
theorem d_X0_hold_20 : decode mi_X0_hold.2.1 20 = .ok (.iload 4, 2) := by decide +kernel
theorem d_X0_hold_22 : decode mi_X0_hold.2.1 22 = .ok (.aload_n 3, 1) := by decide +kernel
theorem d_X0_hold_23 : decode mi_X0_hold.2.1 23 = .ok (.getfield 33, 3) := by decide +kernel
theorem d_X0_hold_26 : decode mi_X0_hold.2.1 26 = .ok (.if_icmp .ge 32, 3) := by decide +kernel
theorem d_X0_hold_29 : decode mi_X0_hold.2.1 29 = .ok (.aload_n 3, 1) := by decide +kernel
theorem d_X0_hold_30 : decode mi_X0_hold.2.1 30 = .ok (.getfield 34, 3) := by decide +kernel
theorem d_X0_hold_33 : decode mi_X0_hold.2.1 33 = .ok (.iload 4, 2) := by decide +kernel
theorem d_X0_hold_35 : decode mi_X0_hold.2.1 35 = .ok (.baload, 1) := by decide +kernel
theorem d_X0_hold_36 : decode mi_X0_hold.2.1 36 = .ok (.ifCond .ne 16, 3) := by decide +kernel
theorem d_X0_hold_39 : decode mi_X0_hold.2.1 39 = .ok (.aload_n 3, 1) := by decide +kernel
theorem d_X0_hold_40 : decode mi_X0_hold.2.1 40 = .ok (.getfield 38, 3) := by decide +kernel
theorem d_X0_hold_43 : decode mi_X0_hold.2.1 43 = .ok (.iload 4, 2) := by decide +kernel
theorem d_X0_hold_45 : decode mi_X0_hold.2.1 45 = .ok (.iaload, 1) := by decide +kernel
theorem d_X0_hold_46 : decode mi_X0_hold.2.1 46 = .ok (.iload_n 1, 1) := by decide +kernel
theorem d_X0_hold_47 : decode mi_X0_hold.2.1 47 = .ok (.if_icmp .ne 5, 3) := by decide +kernel
theorem d_X0_hold_50 : decode mi_X0_hold.2.1 50 = .ok (.iconst 1, 1) := by decide +kernel
theorem d_X0_hold_51 : decode mi_X0_hold.2.1 51 = .ok (.ireturn, 1) := by decide +kernel
theorem d_X0_hold_52 : decode mi_X0_hold.2.1 52 = .ok (.iinc 4 1, 3) := by decide +kernel
theorem d_X0_hold_55 : decode mi_X0_hold.2.1 55 = .ok (.goto (-35), 3) := by decide +kernel
theorem d_X0_hold_58 : decode mi_X0_hold.2.1 58 = .ok (.iinc 2 1, 3) := by decide +kernel
theorem d_X0_hold_61 : decode mi_X0_hold.2.1 61 = .ok (.goto (-59), 3) := by decide +kernel
theorem d_X0_hold_64 : decode mi_X0_hold.2.1 64 = .ok (.iconst 0, 1) := by decide +kernel
theorem d_X0_hold_65 : decode mi_X0_hold.2.1 65 = .ok (.ireturn, 1) := by decide +kernel
theorem in_1 : ∀ w ∈ u_ws RX1 TX1 5, w ∈ mtbl := by decide +kernel
theorem fl_X0_33 : FL RX0 33 1 5 2 := ⟨RX1, TX1, rfl, by decide, rfl, by decide +kernel, in_1⟩
theorem fl_X0_34 : FL RX0 34 1 5 1 := ⟨RX1, TX1, rfl, by decide, rfl, by decide +kernel, in_1⟩
theorem fl_X0_38 : FL RX0 38 1 5 0 := ⟨RX1, TX1, rfl, by decide, rfl, by decide +kernel, in_1⟩
def f_X0_hold_58 (K2 : Int32 → Int32 → SS → Option (Int32 × SS)) (v1 : Int32) (v2 : Int32) (σ : SS) : Option (Int32 × SS) := lt_ (v2 + (1 : Int32)) (fun x1 => K2 v1 x1 σ)
set_option maxRecDepth 20000 in
theorem t_X0_hold_58 {d : Nat} {X : MX} {Y : MY} {b : Nat × Nat} {r : Int32} {σ' : SS} {K2 : Int32 → Int32 → SS → Option (Int32 × SS)} {v1 : Int32} {v2 : Int32} (hK2 : ∀ (v1 : Int32) (v2 : Int32) (σ : SS), K2 v1 v2 σ = some (r, σ') → WM d X Y b mi_X0_hold 2 [some (vR 12 0), some (vI v1), some (vI v2), none, none] [] σ (some (vI r), σ')) {σ : SS} (h : f_X0_hold_58 K2 v1 v2 σ = some (r, σ')) : WM d X Y b mi_X0_hold 58 [some (vR 12 0), some (vI v1), some (vI v2), none, none] [] σ (some (vI r), σ') := by
  rw [f_X0_hold_58] at h
  refine l_iinc (pc' := 61) d_X0_hold_58 rfl ci_1 rfl rfl rfl h (fun x1 h => ?_)
  refine r_goto (pc' := 2) d_X0_hold_61 rfl ?_
  exact WM.drop [] rfl (hK2 _ _ _ h)
def f_X0_hold_52 (K2 : Int32 → Int32 → SS → Option (Int32 × SS)) (K20 : Int32 → Int32 → Option Nat → Int32 → SS → Option (Int32 × SS)) (v1 : Int32) (v2 : Int32) (v3 : Option Nat) (v4 : Int32) (σ : SS) : Option (Int32 × SS) := lt_ (v4 + (1 : Int32)) (fun x1 => K20 v1 v2 v3 x1 σ)
set_option maxRecDepth 20000 in
theorem t_X0_hold_52 {d : Nat} {X : MX} {Y : MY} {b : Nat × Nat} {r : Int32} {σ' : SS} {K2 : Int32 → Int32 → SS → Option (Int32 × SS)} {K20 : Int32 → Int32 → Option Nat → Int32 → SS → Option (Int32 × SS)} {v1 : Int32} {v2 : Int32} {v3 : Option Nat} {v4 : Int32} (hK2 : ∀ (v1 : Int32) (v2 : Int32) (σ : SS), K2 v1 v2 σ = some (r, σ') → WM d X Y b mi_X0_hold 2 [some (vR 12 0), some (vI v1), some (vI v2), none, none] [] σ (some (vI r), σ')) (hK20 : ∀ (v1 : Int32) (v2 : Int32) (v3 : Option Nat) (v4 : Int32) (σ : SS), K20 v1 v2 v3 v4 σ = some (r, σ') → WM d X Y b mi_X0_hold 20 [some (vR 12 0), some (vI v1), some (vI v2), some (vO 22 v3), some (vI v4)] [] σ (some (vI r), σ')) {σ : SS} (h : f_X0_hold_52 K2 K20 v1 v2 v3 v4 σ = some (r, σ')) : WM d X Y b mi_X0_hold 52 [some (vR 12 0), some (vI v1), some (vI v2), some (vO 22 v3), some (vI v4)] [] σ (some (vI r), σ') := by
  rw [f_X0_hold_52] at h
  refine l_iinc (pc' := 55) d_X0_hold_52 rfl ci_1 rfl rfl rfl h (fun x1 h => ?_)
  refine r_goto (pc' := 20) d_X0_hold_55 rfl ?_
  exact WM.drop [] rfl (hK20 _ _ _ _ _ h)
def f_X0_hold_20 (K2 : Int32 → Int32 → SS → Option (Int32 × SS)) : Nat → Int32 → Int32 → Option Nat → Int32 → SS → Option (Int32 × SS)
  | 0, _, _, _, _, _ => none
  | n + 1, v1, v2, v3, v4, σ => Option.elim v3 none (fun i1 => if (σ.1 22 i1 2) ≤ v4 then (f_X0_hold_58 K2 v1 v2 σ) else (chk (inr v4 20) (if (σ.1 24 i1 (ix v4)) = 0 then (chk (inr v4 20) (if (σ.1 23 i1 (ix v4)) = v1 then (some ((1 : Int32), σ)) else (f_X0_hold_52 K2 (f_X0_hold_20 K2 n) v1 v2 (some i1) v4 σ))) else (f_X0_hold_52 K2 (f_X0_hold_20 K2 n) v1 v2 (some i1) v4 σ))))
set_option maxRecDepth 20000 in
theorem t_X0_hold_20 {d : Nat} {X : MX} {Y : MY} {b : Nat × Nat} {r : Int32} {σ' : SS} {K2 : Int32 → Int32 → SS → Option (Int32 × SS)} (hK2 : ∀ (v1 : Int32) (v2 : Int32) (σ : SS), K2 v1 v2 σ = some (r, σ') → WM d X Y b mi_X0_hold 2 [some (vR 12 0), some (vI v1), some (vI v2), none, none] [] σ (some (vI r), σ')) : ∀ (n : Nat) (v1 : Int32) (v2 : Int32) (v3 : Option Nat) (v4 : Int32) (σ : SS), f_X0_hold_20 K2 n v1 v2 v3 v4 σ = some (r, σ') → WM d X Y b mi_X0_hold 20 [some (vR 12 0), some (vI v1), some (vI v2), some (vO 22 v3), some (vI v4)] [] σ (some (vI r), σ') := by
  intro n
  induction n with
  | zero => intro _ _ _ _ σ h; cases h
  | succ n ih =>
    intro v1 v2 v3 v4 σ h
    rw [f_X0_hold_20] at h
    refine r_iload (pc' := 22) d_X0_hold_20 rfl rfl ?_
    refine r_aload_n (pc' := 23) d_X0_hold_22 rfl rfl rfl ?_
    obtain ⟨i1, e, hn⟩ := elim_s h
    clear h; subst e; have h := hn; clear hn
    refine r_get (v := vI _) (pc' := 26) fl_X0_33 d_X0_hold_23 rfl rfl (fun _ => trivial) rfl ?_
    refine r_icmp_ge (pcT := 58) (pc' := 29) d_X0_hold_26 rfl rfl h (fun _ h => ?_) (fun _ h => ?_)
    · exact WM.drop [3, 4] rfl (t_X0_hold_58 hK2 h)
    · refine r_aload_n (pc' := 30) d_X0_hold_29 rfl rfl rfl ?_
      refine r_get (v := vR 24 _) (pc' := 33) fl_X0_34 d_X0_hold_30 rfl rfl (fun g => Or.inl ⟨rfl, g.2⟩) rfl ?_
      refine r_iload (pc' := 35) d_X0_hold_33 rfl rfl ?_
      refine r_baload (pc' := 36) d_X0_hold_35 rfl (fun _ => rfl) rfl h (fun h => ?_)
      refine r_if_ne (pcT := 52) (pc' := 39) d_X0_hold_36 rfl rfl h (fun _ h => ?_) (fun _ h => ?_)
      · refine r_aload_n (pc' := 40) d_X0_hold_39 rfl rfl rfl ?_
        refine r_get (v := vR 23 _) (pc' := 43) fl_X0_38 d_X0_hold_40 rfl rfl (fun g => Or.inl ⟨rfl, g.2⟩) rfl ?_
        refine r_iload (pc' := 45) d_X0_hold_43 rfl rfl ?_
        refine r_iaload (pc' := 46) d_X0_hold_45 rfl (fun _ => rfl) rfl h (fun h => ?_)
        refine r_iload_n (pc' := 47) d_X0_hold_46 rfl rfl rfl ?_
        refine r_icmp_ne (pcT := 52) (pc' := 50) d_X0_hold_47 rfl rfl h (fun _ h => ?_) (fun _ h => ?_)
        · refine r_iconst (pc' := 51) d_X0_hold_50 ci_1 rfl ?_
          exact r_zret d_X0_hold_51 rfl (Or.inr rfl) h
        · exact WM.drop [] rfl (t_X0_hold_52 hK2 ih h)
      · exact WM.drop [] rfl (t_X0_hold_52 hK2 ih h)
def f_X0_hold_2 : Nat → Int32 → Int32 → SS → Option (Int32 × SS)
  | 0, _, _, _ => none
  | n + 1, v1, v2, σ => if (σ.1 12 0 1) ≤ v2 then (some ((0 : Int32), σ)) else (chk (inr v2 12) (lt_ (if ix v2 < σ.2.2 then some (ix v2) else none) (fun q1 => f_X0_hold_20 (f_X0_hold_2 n) FU v1 v2 q1 (0 : Int32) σ)))
set_option maxRecDepth 20000 in
theorem t_X0_hold_2 {d : Nat} {X : MX} {Y : MY} {b : Nat × Nat} {r : Int32} {σ' : SS} : ∀ (n : Nat) (v1 : Int32) (v2 : Int32) (σ : SS), f_X0_hold_2 n v1 v2 σ = some (r, σ') → WM d X Y b mi_X0_hold 2 [some (vR 12 0), some (vI v1), some (vI v2), none, none] [] σ (some (vI r), σ') := by
  intro n
  induction n with
  | zero => intro _ _ σ h; cases h
  | succ n ih =>
    intro v1 v2 σ h
    rw [f_X0_hold_2] at h
    refine r_iload_n (pc' := 3) d_X0_hold_2 rfl rfl rfl ?_
    refine r_aload_n (pc' := 4) d_X0_hold_3 rfl rfl rfl ?_
    refine r_get (v := vI _) (pc' := 7) fl_X0_24 d_X0_hold_4 rfl rfl (fun _ => trivial) rfl ?_
    refine r_icmp_ge (pcT := 64) (pc' := 10) d_X0_hold_7 rfl rfl h (fun _ h => ?_) (fun _ h => ?_)
    · refine r_iconst (pc' := 65) d_X0_hold_64 ci_0 rfl ?_
      exact r_zret d_X0_hold_65 rfl (Or.inl rfl) h
    · refine r_aload_n (pc' := 11) d_X0_hold_10 rfl rfl rfl ?_
      refine r_get (v := vR 13 _) (pc' := 14) fl_X0_13 d_X0_hold_11 rfl rfl (fun g => Or.inl ⟨rfl, g.2⟩) rfl ?_
      refine r_iload_n (pc' := 15) d_X0_hold_14 rfl rfl rfl ?_
      refine l_rows (pc' := 16) d_X0_hold_15 rfl h (fun q1 h => ?_)
      refine r_astore_n (pc' := 17) d_X0_hold_16 rfl rfl rfl rfl ?_
      refine r_iconst (pc' := 18) d_X0_hold_17 ci_0 rfl ?_
      refine r_istore (pc' := 20) d_X0_hold_18 rfl rfl rfl ?_
      exact WM.drop [] rfl (t_X0_hold_20 ih _ _ _ _ _ _ h)
def f_X0_hold (v1 : Int32) (σ : SS) : Option (Int32 × SS) := f_X0_hold_2 FU v1 (0 : Int32) σ
set_option maxRecDepth 20000 in
theorem t_X0_hold {d : Nat} {b : Nat × Nat} {v1 : Int32} {σ : SS} {r : Int32} {σ' : SS} (h : f_X0_hold v1 σ = some (r, σ')) : MM d b mi_X0_hold [vR 12 0, vI v1] σ (some (vI r), σ') := by
  refine MM.of (lv := [some (vR 12 0), some (vI v1), none, none, none]) (by decide +kernel) rfl rfl (fun X Y => ?_)
  rw [f_X0_hold] at h
  refine r_iconst (pc' := 1) d_X0_hold_0 ci_0 rfl ?_
  refine r_istore_n (pc' := 2) d_X0_hold_1 rfl rfl rfl rfl ?_
  exact WM.drop [] rfl (t_X0_hold_2 _ _ _ _ h)
/-! OctagonYard$Assemblies.append(IIZ)I -/
def mi_X0_append : MI := (yX0_append, cX0_append, 5, (some .int))
theorem d_X0_append_0 : decode mi_X0_append.2.1 0 = .ok (.iconst 0, 1) := by decide +kernel
theorem d_X0_append_1 : decode mi_X0_append.2.1 1 = .ok (.istore 4, 2) := by decide +kernel
theorem d_X0_append_3 : decode mi_X0_append.2.1 3 = .ok (.iload 4, 2) := by decide +kernel
theorem d_X0_append_5 : decode mi_X0_append.2.1 5 = .ok (.aload_n 0, 1) := by decide +kernel
theorem d_X0_append_6 : decode mi_X0_append.2.1 6 = .ok (.getfield 24, 3) := by decide +kernel
theorem d_X0_append_9 : decode mi_X0_append.2.1 9 = .ok (.if_icmp .ge 31, 3) := by decide +kernel
theorem d_X0_append_12 : decode mi_X0_append.2.1 12 = .ok (.aload_n 0, 1) := by decide +kernel
theorem d_X0_append_13 : decode mi_X0_append.2.1 13 = .ok (.getfield 13, 3) := by decide +kernel
theorem d_X0_append_16 : decode mi_X0_append.2.1 16 = .ok (.iload 4, 2) := by decide +kernel
theorem d_X0_append_18 : decode mi_X0_append.2.1 18 = .ok (.aaload, 1) := by decide +kernel
theorem d_X0_append_19 : decode mi_X0_append.2.1 19 = .ok (.dup, 1) := by decide +kernel
theorem d_X0_append_20 : decode mi_X0_append.2.1 20 = .ok (.getfield 52, 3) := by decide +kernel
theorem d_X0_append_23 : decode mi_X0_append.2.1 23 = .ok (.aload_n 0, 1) := by decide +kernel
theorem d_X0_append_24 : decode mi_X0_append.2.1 24 = .ok (.getfield 21, 3) := by decide +kernel
theorem d_X0_append_27 : decode mi_X0_append.2.1 27 = .ok (.iload 4, 2) := by decide +kernel
theorem d_X0_append_29 : decode mi_X0_append.2.1 29 = .ok (.iaload, 1) := by decide +kernel
theorem d_X0_append_30 : decode mi_X0_append.2.1 30 = .ok (.iadd, 1) := by decide +kernel
theorem d_X0_append_31 : decode mi_X0_append.2.1 31 = .ok (.putfield 52, 3) := by decide +kernel
theorem d_X0_append_34 : decode mi_X0_append.2.1 34 = .ok (.iinc 4 1, 3) := by decide +kernel
theorem d_X0_append_37 : decode mi_X0_append.2.1 37 = .ok (.goto (-34), 3) := by decide +kernel
theorem d_X0_append_40 : decode mi_X0_append.2.1 40 = .ok (.aload_n 0, 1) := by decide +kernel
theorem d_X0_append_41 : decode mi_X0_append.2.1 41 = .ok (.getfield 13, 3) := by decide +kernel
theorem d_X0_append_44 : decode mi_X0_append.2.1 44 = .ok (.iload_n 1, 1) := by decide +kernel
theorem d_X0_append_45 : decode mi_X0_append.2.1 45 = .ok (.aaload, 1) := by decide +kernel
theorem d_X0_append_46 : decode mi_X0_append.2.1 46 = .ok (.astore 4, 2) := by decide +kernel
theorem d_X0_append_48 : decode mi_X0_append.2.1 48 = .ok (.aload 4, 2) := by decide +kernel
theorem d_X0_append_50 : decode mi_X0_append.2.1 50 = .ok (.getfield 38, 3) := by decide +kernel
theorem d_X0_append_53 : decode mi_X0_append.2.1 53 = .ok (.aload 4, 2) := by decide +kernel
theorem d_X0_append_55 : decode mi_X0_append.2.1 55 = .ok (.getfield 33, 3) := by decide +kernel
theorem d_X0_append_58 : decode mi_X0_append.2.1 58 = .ok (.iload_n 2, 1) := by decide +kernel
theorem d_X0_append_59 : decode mi_X0_append.2.1 59 = .ok (.iastore, 1) := by decide +kernel
theorem d_X0_append_60 : decode mi_X0_append.2.1 60 = .ok (.aload 4, 2) := by decide +kernel
theorem d_X0_append_62 : decode mi_X0_append.2.1 62 = .ok (.getfield 34, 3) := by decide +kernel
theorem d_X0_append_65 : decode mi_X0_append.2.1 65 = .ok (.aload 4, 2) := by decide +kernel
theorem d_X0_append_67 : decode mi_X0_append.2.1 67 = .ok (.getfield 33, 3) := by decide +kernel
theorem d_X0_append_70 : decode mi_X0_append.2.1 70 = .ok (.iload_n 3, 1) := by decide +kernel
theorem d_X0_append_71 : decode mi_X0_append.2.1 71 = .ok (.bastore, 1) := by decide +kernel
theorem d_X0_append_72 : decode mi_X0_append.2.1 72 = .ok (.aload 4, 2) := by decide +kernel
theorem d_X0_append_74 : decode mi_X0_append.2.1 74 = .ok (.dup, 1) := by decide +kernel
theorem d_X0_append_75 : decode mi_X0_append.2.1 75 = .ok (.getfield 33, 3) := by decide +kernel
theorem d_X0_append_78 : decode mi_X0_append.2.1 78 = .ok (.iconst 1, 1) := by decide +kernel
theorem d_X0_append_79 : decode mi_X0_append.2.1 79 = .ok (.iadd, 1) := by decide +kernel
theorem d_X0_append_80 : decode mi_X0_append.2.1 80 = .ok (.putfield 33, 3) := by decide +kernel
theorem d_X0_append_83 : decode mi_X0_append.2.1 83 = .ok (.aload 4, 2) := by decide +kernel
theorem d_X0_append_85 : decode mi_X0_append.2.1 85 = .ok (.getfield 33, 3) := by decide +kernel
theorem d_X0_append_88 : decode mi_X0_append.2.1 88 = .ok (.ireturn, 1) := by decide +kernel
theorem fl_X0_21 : FL RX0 21 0 5 4 := ⟨RX0, TX0, rfl, by decide, rfl, by decide +kernel, in_0⟩
theorem fl_X0_52 : FL RX0 52 1 5 3 := ⟨RX1, TX1, rfl, by decide, rfl, by decide +kernel, in_1⟩
theorem fw_1_2 : FW 1 5 2 .int := ⟨RX1, TX1, tyX1, rfl, rfl, by decide +kernel, tyX1_ok, nmX1⟩
theorem fw_1_3 : FW 1 5 3 .int := ⟨RX1, TX1, tyX1, rfl, rfl, by decide +kernel, tyX1_ok, nmX1⟩
def f_X0_append_40 (v1 : Int32) (v2 : Int32) (v3 : Int32) (σ : SS) : Option (Int32 × SS) := chk (inr v1 12) (lt_ (if ix v1 < σ.2.2 then some (ix v1) else none) (fun q1 => Option.elim q1 none (fun i2 => chk (inr (σ.1 22 i2 2) 20) (lt_ (up σ 23 i2 (ix (σ.1 22 i2 2)) v2) (fun s3 => chk (v3 = 0 ∨ v3 = 1) (chk (inr (s3.1 22 i2 2) 20) (lt_ (up s3 24 i2 (ix (s3.1 22 i2 2)) v3) (fun s4 => lt_ (up s4 22 i2 2 ((s4.1 22 i2 2) + (1 : Int32))) (fun s6 => some ((s6.1 22 i2 2), s6))))))))))
set_option maxRecDepth 20000 in
theorem t_X0_append_40 {d : Nat} {X : MX} {Y : MY} {b : Nat × Nat} {r : Int32} {σ' : SS} {v1 : Int32} {v2 : Int32} {v3 : Int32} {σ : SS} (h : f_X0_append_40 v1 v2 v3 σ = some (r, σ')) : WM d X Y b mi_X0_append 40 [some (vR 12 0), some (vI v1), some (vI v2), some (vI v3), none] [] σ (some (vI r), σ') := by
  rw [f_X0_append_40] at h
  refine r_aload_n (pc' := 41) d_X0_append_40 rfl rfl rfl ?_
  refine r_get (v := vR 13 _) (pc' := 44) fl_X0_13 d_X0_append_41 rfl rfl (fun g => Or.inl ⟨rfl, g.2⟩) rfl ?_
  refine r_iload_n (pc' := 45) d_X0_append_44 rfl rfl rfl ?_
  refine l_rows (pc' := 46) d_X0_append_45 rfl h (fun q1 h => ?_)
  refine r_astore (pc' := 48) d_X0_append_46 rfl rfl rfl ?_
  refine r_aload (pc' := 50) d_X0_append_48 rfl rfl ?_
  obtain ⟨i2, e, hn⟩ := elim_s h
  clear h; subst e; have h := hn; clear hn
  refine r_get (v := vR 23 _) (pc' := 53) fl_X0_38 d_X0_append_50 rfl rfl (fun g => Or.inl ⟨rfl, g.2⟩) rfl ?_
  refine r_aload (pc' := 55) d_X0_append_53 rfl rfl ?_
  refine r_get (v := vI _) (pc' := 58) fl_X0_33 d_X0_append_55 rfl rfl (fun _ => trivial) rfl ?_
  refine r_iload_n (pc' := 59) d_X0_append_58 rfl rfl rfl ?_
  refine l_iastore (pc' := 60) d_X0_append_59 rfl (fun _ => rfl) (by decide) (by decide) (fun _ => rfl) rfl h (fun s3 h => ?_)
  refine r_aload (pc' := 62) d_X0_append_60 rfl rfl ?_
  refine r_get (v := vR 24 _) (pc' := 65) fl_X0_34 d_X0_append_62 rfl rfl (fun g => Or.inl ⟨rfl, g.2⟩) rfl ?_
  refine r_aload (pc' := 67) d_X0_append_65 rfl rfl ?_
  refine r_get (v := vI _) (pc' := 70) fl_X0_33 d_X0_append_67 rfl rfl (fun _ => trivial) rfl ?_
  refine r_iload_n (pc' := 71) d_X0_append_70 rfl rfl rfl ?_
  obtain ⟨z5, h⟩ := chk_t h
  refine l_bastore (pc' := 72) d_X0_append_71 rfl (fun _ => rfl) (by decide) (by decide) (fun _ => rfl) z5 rfl h (fun s4 h => ?_)
  refine r_aload (pc' := 74) d_X0_append_72 rfl rfl ?_
  refine r_dup (pc' := 75) d_X0_append_74 rfl rfl ?_
  refine r_get (v := vI _) (pc' := 78) fl_X0_33 d_X0_append_75 rfl rfl (fun _ => trivial) rfl ?_
  refine r_iconst (pc' := 79) d_X0_append_78 ci_1 rfl ?_
  refine r_iadd (pc' := 80) d_X0_append_79 rfl ?_
  refine l_put (k := 2) (pc' := 83) fl_X0_33 fw_1_2 rfl rfl d_X0_append_80 rfl (by decide) (by decide) rfl rfl h (fun s6 h => ?_)
  refine r_aload (pc' := 85) d_X0_append_83 rfl rfl ?_
  refine r_get (v := vI _) (pc' := 88) fl_X0_33 d_X0_append_85 rfl rfl (fun _ => trivial) rfl ?_
  exact r_iret d_X0_append_88 rfl h
def f_X0_append_3 : Nat → Int32 → Int32 → Int32 → Int32 → SS → Option (Int32 × SS)
  | 0, _, _, _, _, _ => none
  | n + 1, v1, v2, v3, v4, σ => if (σ.1 12 0 1) ≤ v4 then (f_X0_append_40 v1 v2 v3 σ) else (chk (inr v4 12) (lt_ (if ix v4 < σ.2.2 then some (ix v4) else none) (fun q1 => Option.elim q1 none (fun i2 => chk (inr v4 12) (lt_ (up σ 22 i2 3 ((σ.1 22 i2 3) + (σ.1 15 0 (ix v4)))) (fun s3 => lt_ (v4 + (1 : Int32)) (fun x4 => f_X0_append_3 n v1 v2 v3 x4 s3)))))))
set_option maxRecDepth 20000 in
theorem t_X0_append_3 {d : Nat} {X : MX} {Y : MY} {b : Nat × Nat} {r : Int32} {σ' : SS} : ∀ (n : Nat) (v1 : Int32) (v2 : Int32) (v3 : Int32) (v4 : Int32) (σ : SS), f_X0_append_3 n v1 v2 v3 v4 σ = some (r, σ') → WM d X Y b mi_X0_append 3 [some (vR 12 0), some (vI v1), some (vI v2), some (vI v3), some (vI v4)] [] σ (some (vI r), σ') := by
  intro n
  induction n with
  | zero => intro _ _ _ _ σ h; cases h
  | succ n ih =>
    intro v1 v2 v3 v4 σ h
    rw [f_X0_append_3] at h
    refine r_iload (pc' := 5) d_X0_append_3 rfl rfl ?_
    refine r_aload_n (pc' := 6) d_X0_append_5 rfl rfl rfl ?_
    refine r_get (v := vI _) (pc' := 9) fl_X0_24 d_X0_append_6 rfl rfl (fun _ => trivial) rfl ?_
    refine r_icmp_ge (pcT := 40) (pc' := 12) d_X0_append_9 rfl rfl h (fun _ h => ?_) (fun _ h => ?_)
    · exact WM.drop [4] rfl (t_X0_append_40 h)
    · refine r_aload_n (pc' := 13) d_X0_append_12 rfl rfl rfl ?_
      refine r_get (v := vR 13 _) (pc' := 16) fl_X0_13 d_X0_append_13 rfl rfl (fun g => Or.inl ⟨rfl, g.2⟩) rfl ?_
      refine r_iload (pc' := 18) d_X0_append_16 rfl rfl ?_
      refine l_rows (pc' := 19) d_X0_append_18 rfl h (fun q1 h => ?_)
      refine r_dup (pc' := 20) d_X0_append_19 rfl rfl ?_
      obtain ⟨i2, e, hn⟩ := elim_s h
      clear h; subst e; have h := hn; clear hn
      refine r_get (v := vI _) (pc' := 23) fl_X0_52 d_X0_append_20 rfl rfl (fun _ => trivial) rfl ?_
      refine r_aload_n (pc' := 24) d_X0_append_23 rfl rfl rfl ?_
      refine r_get (v := vR 15 _) (pc' := 27) fl_X0_21 d_X0_append_24 rfl rfl (fun g => Or.inl ⟨rfl, g.2⟩) rfl ?_
      refine r_iload (pc' := 29) d_X0_append_27 rfl rfl ?_
      refine r_iaload (pc' := 30) d_X0_append_29 rfl (fun _ => rfl) rfl h (fun h => ?_)
      refine r_iadd (pc' := 31) d_X0_append_30 rfl ?_
      refine l_put (k := 3) (pc' := 34) fl_X0_52 fw_1_3 rfl rfl d_X0_append_31 rfl (by decide) (by decide) rfl rfl h (fun s3 h => ?_)
      refine l_iinc (pc' := 37) d_X0_append_34 rfl ci_1 rfl rfl rfl h (fun x4 h => ?_)
      refine r_goto (pc' := 3) d_X0_append_37 rfl ?_
      exact WM.drop [] rfl (ih _ _ _ _ _ h)
def f_X0_append (v1 : Int32) (v2 : Int32) (v3 : Int32) (σ : SS) : Option (Int32 × SS) := f_X0_append_3 FU v1 v2 v3 (0 : Int32) σ
set_option maxRecDepth 20000 in
theorem t_X0_append {d : Nat} {b : Nat × Nat} {v1 : Int32} {v2 : Int32} {v3 : Int32} {σ : SS} {r : Int32} {σ' : SS} (h : f_X0_append v1 v2 v3 σ = some (r, σ')) : MM d b mi_X0_append [vR 12 0, vI v1, vI v2, vI v3] σ (some (vI r), σ') := by
  refine MM.of (lv := [some (vR 12 0), some (vI v1), some (vI v2), some (vI v3), none]) (by decide +kernel) rfl rfl (fun X Y => ?_)
  rw [f_X0_append] at h
  refine r_iconst (pc' := 1) d_X0_append_0 ci_0 rfl ?_
  refine r_istore (pc' := 3) d_X0_append_1 rfl rfl rfl ?_
  exact WM.drop [] rfl (t_X0_append_3 _ _ _ _ _ _ h)
/-! OctagonYard$Assemblies.gainOfParts(LOctagonYard$Assembly;)I -/
def mi_X0_gainOfParts : MI := (yX0_gainOfParts, cX0_gainOfParts, 4, (some .int))
theorem d_X0_gainOfParts_0 : decode mi_X0_gainOfParts.2.1 0 = .ok (.iconst 0, 1) := by decide +kernel
theorem d_X0_gainOfParts_1 : decode mi_X0_gainOfParts.2.1 1 = .ok (.istore_n 2, 1) := by decide +kernel
theorem d_X0_gainOfParts_2 : decode mi_X0_gainOfParts.2.1 2 = .ok (.iconst 0, 1) := by decide +kernel
theorem d_X0_gainOfParts_3 : decode mi_X0_gainOfParts.2.1 3 = .ok (.istore_n 3, 1) := by decide +kernel
theorem d_X0_gainOfParts_4 : decode mi_X0_gainOfParts.2.1 4 = .ok (.iload_n 3, 1) := by decide +kernel
theorem d_X0_gainOfParts_5 : decode mi_X0_gainOfParts.2.1 5 = .ok (.aload_n 1, 1) := by decide +kernel
theorem d_X0_gainOfParts_6 : decode mi_X0_gainOfParts.2.1 6 = .ok (.getfield 33, 3) := by decide +kernel
theorem d_X0_gainOfParts_9 : decode mi_X0_gainOfParts.2.1 9 = .ok (.if_icmp .ge 32, 3) := by decide +kernel
theorem d_X0_gainOfParts_12 : decode mi_X0_gainOfParts.2.1 12 = .ok (.aload_n 1, 1) := by decide +kernel
theorem d_X0_gainOfParts_13 : decode mi_X0_gainOfParts.2.1 13 = .ok (.getfield 34, 3) := by decide +kernel
theorem d_X0_gainOfParts_16 : decode mi_X0_gainOfParts.2.1 16 = .ok (.iload_n 3, 1) := by decide +kernel
theorem d_X0_gainOfParts_17 : decode mi_X0_gainOfParts.2.1 17 = .ok (.baload, 1) := by decide +kernel
theorem d_X0_gainOfParts_18 : decode mi_X0_gainOfParts.2.1 18 = .ok (.ifCond .eq 17, 3) := by decide +kernel
theorem d_X0_gainOfParts_21 : decode mi_X0_gainOfParts.2.1 21 = .ok (.iload_n 2, 1) := by decide +kernel
theorem d_X0_gainOfParts_22 : decode mi_X0_gainOfParts.2.1 22 = .ok (.aload_n 0, 1) := by decide +kernel
theorem d_X0_gainOfParts_23 : decode mi_X0_gainOfParts.2.1 23 = .ok (.getfield 21, 3) := by decide +kernel
theorem d_X0_gainOfParts_26 : decode mi_X0_gainOfParts.2.1 26 = .ok (.aload_n 1, 1) := by decide +kernel
theorem d_X0_gainOfParts_27 : decode mi_X0_gainOfParts.2.1 27 = .ok (.getfield 38, 3) := by decide +kernel
theorem d_X0_gainOfParts_30 : decode mi_X0_gainOfParts.2.1 30 = .ok (.iload_n 3, 1) := by decide +kernel
theorem d_X0_gainOfParts_31 : decode mi_X0_gainOfParts.2.1 31 = .ok (.iaload, 1) := by decide +kernel
theorem d_X0_gainOfParts_32 : decode mi_X0_gainOfParts.2.1 32 = .ok (.iaload, 1) := by decide +kernel
theorem d_X0_gainOfParts_33 : decode mi_X0_gainOfParts.2.1 33 = .ok (.iadd, 1) := by decide +kernel
theorem d_X0_gainOfParts_34 : decode mi_X0_gainOfParts.2.1 34 = .ok (.istore_n 2, 1) := by decide +kernel
theorem d_X0_gainOfParts_35 : decode mi_X0_gainOfParts.2.1 35 = .ok (.iinc 3 1, 3) := by decide +kernel
theorem d_X0_gainOfParts_38 : decode mi_X0_gainOfParts.2.1 38 = .ok (.goto (-34), 3) := by decide +kernel
theorem d_X0_gainOfParts_41 : decode mi_X0_gainOfParts.2.1 41 = .ok (.iload_n 2, 1) := by decide +kernel
theorem d_X0_gainOfParts_42 : decode mi_X0_gainOfParts.2.1 42 = .ok (.ireturn, 1) := by decide +kernel
def f_X0_gainOfParts_35 (K4 : Nat → Int32 → Int32 → SS → Option (Int32 × SS)) (v1 : Nat) (v2 : Int32) (v3 : Int32) (σ : SS) : Option (Int32 × SS) := lt_ (v3 + (1 : Int32)) (fun x1 => K4 v1 v2 x1 σ)
set_option maxRecDepth 20000 in
theorem t_X0_gainOfParts_35 {d : Nat} {X : MX} {Y : MY} {b : Nat × Nat} {r : Int32} {σ' : SS} {K4 : Nat → Int32 → Int32 → SS → Option (Int32 × SS)} {v1 : Nat} {v2 : Int32} {v3 : Int32} (hK4 : ∀ (v1 : Nat) (v2 : Int32) (v3 : Int32) (σ : SS), K4 v1 v2 v3 σ = some (r, σ') → WM d X Y b mi_X0_gainOfParts 4 [some (vR 12 0), some (vR 22 v1), some (vI v2), some (vI v3)] [] σ (some (vI r), σ')) {σ : SS} (h : f_X0_gainOfParts_35 K4 v1 v2 v3 σ = some (r, σ')) : WM d X Y b mi_X0_gainOfParts 35 [some (vR 12 0), some (vR 22 v1), some (vI v2), some (vI v3)] [] σ (some (vI r), σ') := by
  rw [f_X0_gainOfParts_35] at h
  refine l_iinc (pc' := 38) d_X0_gainOfParts_35 rfl ci_1 rfl rfl rfl h (fun x1 h => ?_)
  refine r_goto (pc' := 4) d_X0_gainOfParts_38 rfl ?_
  exact WM.drop [] rfl (hK4 _ _ _ _ h)
def f_X0_gainOfParts_4 : Nat → Nat → Int32 → Int32 → SS → Option (Int32 × SS)
  | 0, _, _, _, _ => none
  | n + 1, v1, v2, v3, σ => if (σ.1 22 v1 2) ≤ v3 then (some (v2, σ)) else (chk (inr v3 20) (if (σ.1 24 v1 (ix v3)) = 0 then (f_X0_gainOfParts_35 (f_X0_gainOfParts_4 n) v1 v2 v3 σ) else (chk (inr v3 20) (chk (inr (σ.1 23 v1 (ix v3)) 12) (lt_ (v2 + (σ.1 15 0 (ix (σ.1 23 v1 (ix v3))))) (fun x1 => f_X0_gainOfParts_35 (f_X0_gainOfParts_4 n) v1 x1 v3 σ))))))
set_option maxRecDepth 20000 in
theorem t_X0_gainOfParts_4 {d : Nat} {X : MX} {Y : MY} {b : Nat × Nat} {r : Int32} {σ' : SS} : ∀ (n : Nat) (v1 : Nat) (v2 : Int32) (v3 : Int32) (σ : SS), f_X0_gainOfParts_4 n v1 v2 v3 σ = some (r, σ') → WM d X Y b mi_X0_gainOfParts 4 [some (vR 12 0), some (vR 22 v1), some (vI v2), some (vI v3)] [] σ (some (vI r), σ') := by
  intro n
  induction n with
  | zero => intro _ _ _ σ h; cases h
  | succ n ih =>
    intro v1 v2 v3 σ h
    rw [f_X0_gainOfParts_4] at h
    refine r_iload_n (pc' := 5) d_X0_gainOfParts_4 rfl rfl rfl ?_
    refine r_aload_n (pc' := 6) d_X0_gainOfParts_5 rfl rfl rfl ?_
    refine r_get (v := vI _) (pc' := 9) fl_X0_33 d_X0_gainOfParts_6 rfl rfl (fun _ => trivial) rfl ?_
    refine r_icmp_ge (pcT := 41) (pc' := 12) d_X0_gainOfParts_9 rfl rfl h (fun _ h => ?_) (fun _ h => ?_)
    · refine r_iload_n (pc' := 42) d_X0_gainOfParts_41 rfl rfl rfl ?_
      exact r_iret d_X0_gainOfParts_42 rfl h
    · refine r_aload_n (pc' := 13) d_X0_gainOfParts_12 rfl rfl rfl ?_
      refine r_get (v := vR 24 _) (pc' := 16) fl_X0_34 d_X0_gainOfParts_13 rfl rfl (fun g => Or.inl ⟨rfl, g.2⟩) rfl ?_
      refine r_iload_n (pc' := 17) d_X0_gainOfParts_16 rfl rfl rfl ?_
      refine r_baload (pc' := 18) d_X0_gainOfParts_17 rfl (fun _ => rfl) rfl h (fun h => ?_)
      refine r_if_eq (pcT := 35) (pc' := 21) d_X0_gainOfParts_18 rfl rfl h (fun _ h => ?_) (fun _ h => ?_)
      · exact WM.drop [] rfl (t_X0_gainOfParts_35 ih h)
      · refine r_iload_n (pc' := 22) d_X0_gainOfParts_21 rfl rfl rfl ?_
        refine r_aload_n (pc' := 23) d_X0_gainOfParts_22 rfl rfl rfl ?_
        refine r_get (v := vR 15 _) (pc' := 26) fl_X0_21 d_X0_gainOfParts_23 rfl rfl (fun g => Or.inl ⟨rfl, g.2⟩) rfl ?_
        refine r_aload_n (pc' := 27) d_X0_gainOfParts_26 rfl rfl rfl ?_
        refine r_get (v := vR 23 _) (pc' := 30) fl_X0_38 d_X0_gainOfParts_27 rfl rfl (fun g => Or.inl ⟨rfl, g.2⟩) rfl ?_
        refine r_iload_n (pc' := 31) d_X0_gainOfParts_30 rfl rfl rfl ?_
        refine r_iaload (pc' := 32) d_X0_gainOfParts_31 rfl (fun _ => rfl) rfl h (fun h => ?_)
        refine r_iaload (pc' := 33) d_X0_gainOfParts_32 rfl (fun _ => rfl) rfl h (fun h => ?_)
        refine r_iadd (pc' := 34) d_X0_gainOfParts_33 rfl ?_
        refine l_istore_n (pc' := 35) d_X0_gainOfParts_34 rfl rfl rfl rfl h (fun x1 h => ?_)
        exact WM.drop [] rfl (t_X0_gainOfParts_35 ih h)
def f_X0_gainOfParts (v1 : Nat) (σ : SS) : Option (Int32 × SS) := f_X0_gainOfParts_4 FU v1 (0 : Int32) (0 : Int32) σ
set_option maxRecDepth 20000 in
theorem t_X0_gainOfParts {d : Nat} {b : Nat × Nat} {v1 : Nat} {σ : SS} {r : Int32} {σ' : SS} (h : f_X0_gainOfParts v1 σ = some (r, σ')) : MM d b mi_X0_gainOfParts [vR 12 0, vR 22 v1] σ (some (vI r), σ') := by
  refine MM.of (lv := [some (vR 12 0), some (vR 22 v1), none, none]) (by decide +kernel) rfl rfl (fun X Y => ?_)
  rw [f_X0_gainOfParts] at h
  refine r_iconst (pc' := 1) d_X0_gainOfParts_0 ci_0 rfl ?_
  refine r_istore_n (pc' := 2) d_X0_gainOfParts_1 rfl rfl rfl rfl ?_
  refine r_iconst (pc' := 3) d_X0_gainOfParts_2 ci_0 rfl ?_
  refine r_istore_n (pc' := 4) d_X0_gainOfParts_3 rfl rfl rfl rfl ?_
  exact WM.drop [] rfl (t_X0_gainOfParts_4 _ _ _ _ _ h)
/-! OctagonYard$Assemblies.hasRoom(II)Z -/
def mi_X0_hasRoom : MI := (yX0_hasRoom, cX0_hasRoom, 5, (some .boolean))
theorem d_X0_hasRoom_0 : decode mi_X0_hasRoom.2.1 0 = .ok (.aload_n 0, 1) := by decide +kernel
theorem d_X0_hasRoom_1 : decode mi_X0_hasRoom.2.1 1 = .ok (.getfield 13, 3) := by decide +kernel
theorem d_X0_hasRoom_4 : decode mi_X0_hasRoom.2.1 4 = .ok (.iload_n 1, 1) := by decide +kernel
theorem d_X0_hasRoom_5 : decode mi_X0_hasRoom.2.1 5 = .ok (.aaload, 1) := by decide +kernel
theorem d_X0_hasRoom_6 : decode mi_X0_hasRoom.2.1 6 = .ok (.getfield 33, 3) := by decide +kernel
theorem d_X0_hasRoom_9 : decode mi_X0_hasRoom.2.1 9 = .ok (.bipush 20, 2) := by decide +kernel
theorem d_X0_hasRoom_11 : decode mi_X0_hasRoom.2.1 11 = .ok (.if_icmp .lt 5, 3) := by decide +kernel
theorem d_X0_hasRoom_14 : decode mi_X0_hasRoom.2.1 14 = .ok (.iconst 0, 1) := by decide +kernel
theorem d_X0_hasRoom_15 : decode mi_X0_hasRoom.2.1 15 = .ok (.ireturn, 1) := by decide +kernel
theorem d_X0_hasRoom_16 : decode mi_X0_hasRoom.2.1 16 = .ok (.iconst 0, 1) := by decide +kernel
theorem d_X0_hasRoom_17 : decode mi_X0_hasRoom.2.1 17 = .ok (.istore_n 3, 1) := by decide +kernel
theorem d_X0_hasRoom_18 : decode mi_X0_hasRoom.2.1 18 = .ok (.iload_n 3, 1) := by decide +kernel
theorem d_X0_hasRoom_19 : decode mi_X0_hasRoom.2.1 19 = .ok (.bipush 12, 2) := by decide +kernel
theorem d_X0_hasRoom_21 : decode mi_X0_hasRoom.2.1 21 = .ok (.if_icmp .ge 98, 3) := by decide +kernel
theorem d_X0_hasRoom_24 : decode mi_X0_hasRoom.2.1 24 = .ok (.iconst 0, 1) := by decide +kernel
theorem d_X0_hasRoom_25 : decode mi_X0_hasRoom.2.1 25 = .ok (.istore 4, 2) := by decide +kernel
theorem d_X0_hasRoom_27 : decode mi_X0_hasRoom.2.1 27 = .ok (.iload 4, 2) := by decide +kernel
theorem d_X0_hasRoom_29 : decode mi_X0_hasRoom.2.1 29 = .ok (.aload_n 0, 1) := by decide +kernel
theorem d_X0_hasRoom_30 : decode mi_X0_hasRoom.2.1 30 = .ok (.getfield 24, 3) := by decide +kernel
theorem d_X0_hasRoom_33 : decode mi_X0_hasRoom.2.1 33 = .ok (.if_icmp .ge 80, 3) := by decide +kernel
theorem d_X0_hasRoom_36 : decode mi_X0_hasRoom.2.1 36 = .ok (.aload_n 0, 1) := by decide +kernel
theorem d_X0_hasRoom_37 : decode mi_X0_hasRoom.2.1 37 = .ok (.getfield 13, 3) := by decide +kernel
theorem d_X0_hasRoom_40 : decode mi_X0_hasRoom.2.1 40 = .ok (.iload 4, 2) := by decide +kernel
theorem d_X0_hasRoom_42 : decode mi_X0_hasRoom.2.1 42 = .ok (.aaload, 1) := by decide +kernel
theorem d_X0_hasRoom_43 : decode mi_X0_hasRoom.2.1 43 = .ok (.getfield 55, 3) := by decide +kernel
theorem d_X0_hasRoom_46 : decode mi_X0_hasRoom.2.1 46 = .ok (.invokestatic 58, 3) := by decide +kernel
theorem d_X0_hasRoom_49 : decode mi_X0_hasRoom.2.1 49 = .ok (.iload_n 3, 1) := by decide +kernel
theorem d_X0_hasRoom_50 : decode mi_X0_hasRoom.2.1 50 = .ok (.if_icmp .ne 57, 3) := by decide +kernel
theorem d_X0_hasRoom_53 : decode mi_X0_hasRoom.2.1 53 = .ok (.aload_n 0, 1) := by decide +kernel
theorem d_X0_hasRoom_54 : decode mi_X0_hasRoom.2.1 54 = .ok (.getfield 21, 3) := by decide +kernel
theorem d_X0_hasRoom_57 : decode mi_X0_hasRoom.2.1 57 = .ok (.iload 4, 2) := by decide +kernel
theorem d_X0_hasRoom_59 : decode mi_X0_hasRoom.2.1 59 = .ok (.iload 4, 2) := by decide +kernel
theorem d_X0_hasRoom_61 : decode mi_X0_hasRoom.2.1 61 = .ok (.iload_n 1, 1) := by decide +kernel
theorem d_X0_hasRoom_62 : decode mi_X0_hasRoom.2.1 62 = .ok (.if_icmp .ne 7, 3) := by decide +kernel
theorem d_X0_hasRoom_65 : decode mi_X0_hasRoom.2.1 65 = .ok (.iload_n 2, 1) := by decide +kernel
theorem d_X0_hasRoom_66 : decode mi_X0_hasRoom.2.1 66 = .ok (.goto 14, 3) := by decide +kernel
theorem d_X0_hasRoom_69 : decode mi_X0_hasRoom.2.1 69 = .ok (.aload_n 0, 1) := by decide +kernel
theorem d_X0_hasRoom_70 : decode mi_X0_hasRoom.2.1 70 = .ok (.aload_n 0, 1) := by decide +kernel
theorem d_X0_hasRoom_71 : decode mi_X0_hasRoom.2.1 71 = .ok (.getfield 13, 3) := by decide +kernel
theorem d_X0_hasRoom_74 : decode mi_X0_hasRoom.2.1 74 = .ok (.iload 4, 2) := by decide +kernel
theorem d_X0_hasRoom_76 : decode mi_X0_hasRoom.2.1 76 = .ok (.aaload, 1) := by decide +kernel
theorem d_X0_hasRoom_77 : decode mi_X0_hasRoom.2.1 77 = .ok (.invokevirtual 64, 3) := by decide +kernel
theorem d_X0_hasRoom_80 : decode mi_X0_hasRoom.2.1 80 = .ok (.iastore, 1) := by decide +kernel
theorem d_X0_hasRoom_81 : decode mi_X0_hasRoom.2.1 81 = .ok (.aload_n 0, 1) := by decide +kernel
theorem d_X0_hasRoom_82 : decode mi_X0_hasRoom.2.1 82 = .ok (.getfield 13, 3) := by decide +kernel
theorem d_X0_hasRoom_85 : decode mi_X0_hasRoom.2.1 85 = .ok (.iload 4, 2) := by decide +kernel
theorem d_X0_hasRoom_87 : decode mi_X0_hasRoom.2.1 87 = .ok (.aaload, 1) := by decide +kernel
theorem d_X0_hasRoom_88 : decode mi_X0_hasRoom.2.1 88 = .ok (.getfield 52, 3) := by decide +kernel
theorem d_X0_hasRoom_91 : decode mi_X0_hasRoom.2.1 91 = .ok (.aload_n 0, 1) := by decide +kernel
theorem d_X0_hasRoom_92 : decode mi_X0_hasRoom.2.1 92 = .ok (.getfield 21, 3) := by decide +kernel
theorem d_X0_hasRoom_95 : decode mi_X0_hasRoom.2.1 95 = .ok (.iload 4, 2) := by decide +kernel
theorem d_X0_hasRoom_97 : decode mi_X0_hasRoom.2.1 97 = .ok (.iaload, 1) := by decide +kernel
theorem d_X0_hasRoom_98 : decode mi_X0_hasRoom.2.1 98 = .ok (.iadd, 1) := by decide +kernel
theorem d_X0_hasRoom_99 : decode mi_X0_hasRoom.2.1 99 = .ok (.sipush 500, 3) := by decide +kernel
theorem d_X0_hasRoom_102 : decode mi_X0_hasRoom.2.1 102 = .ok (.if_icmp .le 5, 3) := by decide +kernel
theorem d_X0_hasRoom_105 : decode mi_X0_hasRoom.2.1 105 = .ok (.iconst 0, 1) := by decide +kernel
theorem d_X0_hasRoom_106 : decode mi_X0_hasRoom.2.1 106 = .ok (.ireturn, 1) := by decide +kernel
theorem d_X0_hasRoom_107 : decode mi_X0_hasRoom.2.1 107 = .ok (.iinc 4 1, 3) := by decide +kernel
theorem d_X0_hasRoom_110 : decode mi_X0_hasRoom.2.1 110 = .ok (.goto (-83), 3) := by decide +kernel
theorem d_X0_hasRoom_113 : decode mi_X0_hasRoom.2.1 113 = .ok (.iinc 3 1, 3) := by decide +kernel
theorem d_X0_hasRoom_116 : decode mi_X0_hasRoom.2.1 116 = .ok (.goto (-98), 3) := by decide +kernel
theorem d_X0_hasRoom_119 : decode mi_X0_hasRoom.2.1 119 = .ok (.iconst 1, 1) := by decide +kernel
theorem d_X0_hasRoom_120 : decode mi_X0_hasRoom.2.1 120 = .ok (.ireturn, 1) := by decide +kernel
theorem cb_20 : (Int8.ofInt (20)).toInt32 = 20 := by decide
theorem cs_500 : (Int16.ofInt (500)).toInt32 = 500 := by decide
theorem fl_X0_55 : FL RX0 55 1 5 4 := ⟨RX1, TX1, rfl, by decide, rfl, by decide +kernel, in_1⟩
theorem cw_X0_58 : CT RX0 58 mi_J6_bitCount_0f7a4 1 := by unfold CT; decide +kernel
theorem cw_X0_64 : CV RX0 64 mi_X0_gainOfParts 1 := by unfold CV; decide +kernel
def f_X0_hasRoom_113 (K18 : Int32 → Int32 → Int32 → SS → Option (Int32 × SS)) (v1 : Int32) (v2 : Int32) (v3 : Int32) (σ : SS) : Option (Int32 × SS) := lt_ (v3 + (1 : Int32)) (fun x1 => K18 v1 v2 x1 σ)
set_option maxRecDepth 20000 in
theorem t_X0_hasRoom_113 {d : Nat} {X : MX} {Y : MY} {b : Nat × Nat} {r : Int32} {σ' : SS} {K18 : Int32 → Int32 → Int32 → SS → Option (Int32 × SS)} {v1 : Int32} {v2 : Int32} {v3 : Int32} (hK18 : ∀ (v1 : Int32) (v2 : Int32) (v3 : Int32) (σ : SS), K18 v1 v2 v3 σ = some (r, σ') → WM (d + 1) X Y b mi_X0_hasRoom 18 [some (vR 12 0), some (vI v1), some (vI v2), some (vI v3), none] [] σ (some (vI r), σ')) {σ : SS} (h : f_X0_hasRoom_113 K18 v1 v2 v3 σ = some (r, σ')) : WM (d + 1) X Y b mi_X0_hasRoom 113 [some (vR 12 0), some (vI v1), some (vI v2), some (vI v3), none] [] σ (some (vI r), σ') := by
  rw [f_X0_hasRoom_113] at h
  refine l_iinc (pc' := 116) d_X0_hasRoom_113 rfl ci_1 rfl rfl rfl h (fun x1 h => ?_)
  refine r_goto (pc' := 18) d_X0_hasRoom_116 rfl ?_
  exact WM.drop [] rfl (hK18 _ _ _ _ h)
def f_X0_hasRoom_107 (K18 : Int32 → Int32 → Int32 → SS → Option (Int32 × SS)) (K27 : Int32 → Int32 → Int32 → Int32 → SS → Option (Int32 × SS)) (v1 : Int32) (v2 : Int32) (v3 : Int32) (v4 : Int32) (σ : SS) : Option (Int32 × SS) := lt_ (v4 + (1 : Int32)) (fun x1 => K27 v1 v2 v3 x1 σ)
set_option maxRecDepth 20000 in
theorem t_X0_hasRoom_107 {d : Nat} {X : MX} {Y : MY} {b : Nat × Nat} {r : Int32} {σ' : SS} {K18 : Int32 → Int32 → Int32 → SS → Option (Int32 × SS)} {K27 : Int32 → Int32 → Int32 → Int32 → SS → Option (Int32 × SS)} {v1 : Int32} {v2 : Int32} {v3 : Int32} {v4 : Int32} (hK18 : ∀ (v1 : Int32) (v2 : Int32) (v3 : Int32) (σ : SS), K18 v1 v2 v3 σ = some (r, σ') → WM (d + 1) X Y b mi_X0_hasRoom 18 [some (vR 12 0), some (vI v1), some (vI v2), some (vI v3), none] [] σ (some (vI r), σ')) (hK27 : ∀ (v1 : Int32) (v2 : Int32) (v3 : Int32) (v4 : Int32) (σ : SS), K27 v1 v2 v3 v4 σ = some (r, σ') → WM (d + 1) X Y b mi_X0_hasRoom 27 [some (vR 12 0), some (vI v1), some (vI v2), some (vI v3), some (vI v4)] [] σ (some (vI r), σ')) {σ : SS} (h : f_X0_hasRoom_107 K18 K27 v1 v2 v3 v4 σ = some (r, σ')) : WM (d + 1) X Y b mi_X0_hasRoom 107 [some (vR 12 0), some (vI v1), some (vI v2), some (vI v3), some (vI v4)] [] σ (some (vI r), σ') := by
  rw [f_X0_hasRoom_107] at h
  refine l_iinc (pc' := 110) d_X0_hasRoom_107 rfl ci_1 rfl rfl rfl h (fun x1 h => ?_)
  refine r_goto (pc' := 27) d_X0_hasRoom_110 rfl ?_
  exact WM.drop [] rfl (hK27 _ _ _ _ _ h)
def f_X0_hasRoom_80 (K18 : Int32 → Int32 → Int32 → SS → Option (Int32 × SS)) (K27 : Int32 → Int32 → Int32 → Int32 → SS → Option (Int32 × SS)) (v1 : Int32) (v2 : Int32) (v3 : Int32) (v4 : Int32) (u1 : Int32) (u2 : Int32) (σ : SS) : Option (Int32 × SS) := chk (inr u1 12) (lt_ (up σ 15 0 (ix u1) u2) (fun s1 => chk (inr v4 12) (lt_ (if ix v4 < s1.2.2 then some (ix v4) else none) (fun q2 => Option.elim q2 none (fun i3 => chk (inr v4 12) (if ((s1.1 22 i3 3) + (s1.1 15 0 (ix v4))) ≤ (500 : Int32) then (f_X0_hasRoom_107 K18 K27 v1 v2 v3 v4 s1) else (some ((0 : Int32), s1))))))))
set_option maxRecDepth 20000 in
theorem t_X0_hasRoom_80 {d : Nat} {X : MX} {Y : MY} {b : Nat × Nat} {r : Int32} {σ' : SS} {K18 : Int32 → Int32 → Int32 → SS → Option (Int32 × SS)} {K27 : Int32 → Int32 → Int32 → Int32 → SS → Option (Int32 × SS)} {v1 : Int32} {v2 : Int32} {v3 : Int32} {v4 : Int32} {u1 : Int32} {u2 : Int32} (hK18 : ∀ (v1 : Int32) (v2 : Int32) (v3 : Int32) (σ : SS), K18 v1 v2 v3 σ = some (r, σ') → WM (d + 1) X Y b mi_X0_hasRoom 18 [some (vR 12 0), some (vI v1), some (vI v2), some (vI v3), none] [] σ (some (vI r), σ')) (hK27 : ∀ (v1 : Int32) (v2 : Int32) (v3 : Int32) (v4 : Int32) (σ : SS), K27 v1 v2 v3 v4 σ = some (r, σ') → WM (d + 1) X Y b mi_X0_hasRoom 27 [some (vR 12 0), some (vI v1), some (vI v2), some (vI v3), some (vI v4)] [] σ (some (vI r), σ')) {σ : SS} (h : f_X0_hasRoom_80 K18 K27 v1 v2 v3 v4 u1 u2 σ = some (r, σ')) : WM (d + 1) X Y b mi_X0_hasRoom 80 [some (vR 12 0), some (vI v1), some (vI v2), some (vI v3), some (vI v4)] [vI u2, vI u1, vR 15 0] σ (some (vI r), σ') := by
  rw [f_X0_hasRoom_80] at h
  refine l_iastore (pc' := 81) d_X0_hasRoom_80 rfl (fun _ => rfl) (by decide) (by decide) (fun _ => rfl) rfl h (fun s1 h => ?_)
  refine r_aload_n (pc' := 82) d_X0_hasRoom_81 rfl rfl rfl ?_
  refine r_get (v := vR 13 _) (pc' := 85) fl_X0_13 d_X0_hasRoom_82 rfl rfl (fun g => Or.inl ⟨rfl, g.2⟩) rfl ?_
  refine r_iload (pc' := 87) d_X0_hasRoom_85 rfl rfl ?_
  refine l_rows (pc' := 88) d_X0_hasRoom_87 rfl h (fun q2 h => ?_)
  obtain ⟨i3, e, hn⟩ := elim_s h
  clear h; subst e; have h := hn; clear hn
  refine r_get (v := vI _) (pc' := 91) fl_X0_52 d_X0_hasRoom_88 rfl rfl (fun _ => trivial) rfl ?_
  refine r_aload_n (pc' := 92) d_X0_hasRoom_91 rfl rfl rfl ?_
  refine r_get (v := vR 15 _) (pc' := 95) fl_X0_21 d_X0_hasRoom_92 rfl rfl (fun g => Or.inl ⟨rfl, g.2⟩) rfl ?_
  refine r_iload (pc' := 97) d_X0_hasRoom_95 rfl rfl ?_
  refine r_iaload (pc' := 98) d_X0_hasRoom_97 rfl (fun _ => rfl) rfl h (fun h => ?_)
  refine r_iadd (pc' := 99) d_X0_hasRoom_98 rfl ?_
  refine r_sipush (pc' := 102) d_X0_hasRoom_99 cs_500 rfl ?_
  refine r_icmp_le (pcT := 107) (pc' := 105) d_X0_hasRoom_102 rfl rfl h (fun _ h => ?_) (fun _ h => ?_)
  · exact WM.drop [] rfl (t_X0_hasRoom_107 hK18 hK27 h)
  · refine r_iconst (pc' := 106) d_X0_hasRoom_105 ci_0 rfl ?_
    exact r_zret d_X0_hasRoom_106 rfl (Or.inl rfl) h
def f_X0_hasRoom_27 (K18 : Int32 → Int32 → Int32 → SS → Option (Int32 × SS)) : Nat → Int32 → Int32 → Int32 → Int32 → SS → Option (Int32 × SS)
  | 0, _, _, _, _, _ => none
  | n + 1, v1, v2, v3, v4, σ => if (σ.1 12 0 1) ≤ v4 then (f_X0_hasRoom_113 K18 v1 v2 v3 σ) else (chk (inr v4 12) (lt_ (if ix v4 < σ.2.2 then some (ix v4) else none) (fun q1 => Option.elim q1 none (fun i2 => cal (f_J6_bitCount_0f7a4 (σ.1 22 i2 4) σ) (fun x4 s3 => if x4 = v3 then (if v4 = v1 then (f_X0_hasRoom_80 K18 (f_X0_hasRoom_27 K18 n) v1 v2 v3 v4 v4 v2 s3) else (chk (inr v4 12) (lt_ (if ix v4 < s3.2.2 then some (ix v4) else none) (fun q5 => Option.elim q5 none (fun i6 => cal (f_X0_gainOfParts i6 s3) (fun x8 s7 => f_X0_hasRoom_80 K18 (f_X0_hasRoom_27 K18 n) v1 v2 v3 v4 v4 x8 s7)))))) else (f_X0_hasRoom_107 K18 (f_X0_hasRoom_27 K18 n) v1 v2 v3 v4 s3))))))
set_option maxRecDepth 20000 in
theorem t_X0_hasRoom_27 {d : Nat} {X : MX} {Y : MY} {b : Nat × Nat} {r : Int32} {σ' : SS} {K18 : Int32 → Int32 → Int32 → SS → Option (Int32 × SS)} (hK18 : ∀ (v1 : Int32) (v2 : Int32) (v3 : Int32) (σ : SS), K18 v1 v2 v3 σ = some (r, σ') → WM (d + 1) X Y b mi_X0_hasRoom 18 [some (vR 12 0), some (vI v1), some (vI v2), some (vI v3), none] [] σ (some (vI r), σ')) : ∀ (n : Nat) (v1 : Int32) (v2 : Int32) (v3 : Int32) (v4 : Int32) (σ : SS), f_X0_hasRoom_27 K18 n v1 v2 v3 v4 σ = some (r, σ') → WM (d + 1) X Y b mi_X0_hasRoom 27 [some (vR 12 0), some (vI v1), some (vI v2), some (vI v3), some (vI v4)] [] σ (some (vI r), σ') := by
  intro n
  induction n with
  | zero => intro _ _ _ _ σ h; cases h
  | succ n ih =>
    intro v1 v2 v3 v4 σ h
    rw [f_X0_hasRoom_27] at h
    refine r_iload (pc' := 29) d_X0_hasRoom_27 rfl rfl ?_
    refine r_aload_n (pc' := 30) d_X0_hasRoom_29 rfl rfl rfl ?_
    refine r_get (v := vI _) (pc' := 33) fl_X0_24 d_X0_hasRoom_30 rfl rfl (fun _ => trivial) rfl ?_
    refine r_icmp_ge (pcT := 113) (pc' := 36) d_X0_hasRoom_33 rfl rfl h (fun _ h => ?_) (fun _ h => ?_)
    · exact WM.drop [4] rfl (t_X0_hasRoom_113 hK18 h)
    · refine r_aload_n (pc' := 37) d_X0_hasRoom_36 rfl rfl rfl ?_
      refine r_get (v := vR 13 _) (pc' := 40) fl_X0_13 d_X0_hasRoom_37 rfl rfl (fun g => Or.inl ⟨rfl, g.2⟩) rfl ?_
      refine r_iload (pc' := 42) d_X0_hasRoom_40 rfl rfl ?_
      refine l_rows (pc' := 43) d_X0_hasRoom_42 rfl h (fun q1 h => ?_)
      obtain ⟨i2, e, hn⟩ := elim_s h
      clear h; subst e; have h := hn; clear hn
      refine r_get (v := vI _) (pc' := 46) fl_X0_55 d_X0_hasRoom_43 rfl rfl (fun _ => trivial) rfl ?_
      refine s1_i (mc := mi_J6_bitCount_0f7a4) (bc := (0, 0)) (b' := _) (pc' := 49) cw_X0_58 d_X0_hasRoom_46 rfl (Nat.zero_add _).symm (Nat.zero_add _).symm rfl h (fun _ _ e => t_J6_bitCount_0f7a4 e) (fun x4 s3 h => ?_)
      refine r_iload_n (pc' := 50) d_X0_hasRoom_49 rfl rfl rfl ?_
      refine r_icmp_ne (pcT := 107) (pc' := 53) d_X0_hasRoom_50 rfl rfl h (fun _ h => ?_) (fun _ h => ?_)
      · refine r_aload_n (pc' := 54) d_X0_hasRoom_53 rfl rfl rfl ?_
        refine r_get (v := vR 15 _) (pc' := 57) fl_X0_21 d_X0_hasRoom_54 rfl rfl (fun g => Or.inl ⟨rfl, g.2⟩) rfl ?_
        refine r_iload (pc' := 59) d_X0_hasRoom_57 rfl rfl ?_
        refine r_iload (pc' := 61) d_X0_hasRoom_59 rfl rfl ?_
        refine r_iload_n (pc' := 62) d_X0_hasRoom_61 rfl rfl rfl ?_
        refine r_icmp_ne (pcT := 69) (pc' := 65) d_X0_hasRoom_62 rfl rfl h (fun _ h => ?_) (fun _ h => ?_)
        · refine r_iload_n (pc' := 66) d_X0_hasRoom_65 rfl rfl rfl ?_
          refine r_goto (pc' := 80) d_X0_hasRoom_66 rfl ?_
          exact WM.drop [] rfl (t_X0_hasRoom_80 hK18 ih h)
        · refine r_aload_n (pc' := 70) d_X0_hasRoom_69 rfl rfl rfl ?_
          refine r_aload_n (pc' := 71) d_X0_hasRoom_70 rfl rfl rfl ?_
          refine r_get (v := vR 13 _) (pc' := 74) fl_X0_13 d_X0_hasRoom_71 rfl rfl (fun g => Or.inl ⟨rfl, g.2⟩) rfl ?_
          refine r_iload (pc' := 76) d_X0_hasRoom_74 rfl rfl ?_
          refine l_rows (pc' := 77) d_X0_hasRoom_76 rfl h (fun q5 h => ?_)
          obtain ⟨i6, e, hn⟩ := elim_s h
          clear h; subst e; have h := hn; clear hn
          refine v1_i (mc := mi_X0_gainOfParts) (bc := (0, 0)) (b' := _) (pc' := 80) cw_X0_64 d_X0_hasRoom_77 rfl rfl rfl (Nat.zero_add _).symm (Nat.zero_add _).symm rfl h (fun _ _ e => t_X0_gainOfParts e) (fun x8 s7 h => ?_)
          exact WM.drop [] rfl (t_X0_hasRoom_80 hK18 ih h)
      · exact WM.drop [] rfl (t_X0_hasRoom_107 hK18 ih h)
def f_X0_hasRoom_18 : Nat → Int32 → Int32 → Int32 → SS → Option (Int32 × SS)
  | 0, _, _, _, _ => none
  | n + 1, v1, v2, v3, σ => if (12 : Int32) ≤ v3 then (some ((1 : Int32), σ)) else (f_X0_hasRoom_27 (f_X0_hasRoom_18 n) FU v1 v2 v3 (0 : Int32) σ)
set_option maxRecDepth 20000 in
theorem t_X0_hasRoom_18 {d : Nat} {X : MX} {Y : MY} {b : Nat × Nat} {r : Int32} {σ' : SS} : ∀ (n : Nat) (v1 : Int32) (v2 : Int32) (v3 : Int32) (σ : SS), f_X0_hasRoom_18 n v1 v2 v3 σ = some (r, σ') → WM (d + 1) X Y b mi_X0_hasRoom 18 [some (vR 12 0), some (vI v1), some (vI v2), some (vI v3), none] [] σ (some (vI r), σ') := by
  intro n
  induction n with
  | zero => intro _ _ _ σ h; cases h
  | succ n ih =>
    intro v1 v2 v3 σ h
    rw [f_X0_hasRoom_18] at h
    refine r_iload_n (pc' := 19) d_X0_hasRoom_18 rfl rfl rfl ?_
    refine r_bipush (pc' := 21) d_X0_hasRoom_19 cb_12 rfl ?_
    refine r_icmp_ge (pcT := 119) (pc' := 24) d_X0_hasRoom_21 rfl rfl h (fun _ h => ?_) (fun _ h => ?_)
    · refine r_iconst (pc' := 120) d_X0_hasRoom_119 ci_1 rfl ?_
      exact r_zret d_X0_hasRoom_120 rfl (Or.inr rfl) h
    · refine r_iconst (pc' := 25) d_X0_hasRoom_24 ci_0 rfl ?_
      refine r_istore (pc' := 27) d_X0_hasRoom_25 rfl rfl rfl ?_
      exact WM.drop [] rfl (t_X0_hasRoom_27 ih _ _ _ _ _ _ h)
def f_X0_hasRoom (v1 : Int32) (v2 : Int32) (σ : SS) : Option (Int32 × SS) := chk (inr v1 12) (lt_ (if ix v1 < σ.2.2 then some (ix v1) else none) (fun q1 => Option.elim q1 none (fun i2 => if (σ.1 22 i2 2) < (20 : Int32) then (f_X0_hasRoom_18 FU v1 v2 (0 : Int32) σ) else (some ((0 : Int32), σ)))))
set_option maxRecDepth 20000 in
theorem t_X0_hasRoom {d : Nat} {b : Nat × Nat} {v1 : Int32} {v2 : Int32} {σ : SS} {r : Int32} {σ' : SS} (h : f_X0_hasRoom v1 v2 σ = some (r, σ')) : MM (d + 1) b mi_X0_hasRoom [vR 12 0, vI v1, vI v2] σ (some (vI r), σ') := by
  refine MM.of (lv := [some (vR 12 0), some (vI v1), some (vI v2), none, none]) (by decide +kernel) rfl rfl (fun X Y => ?_)
  rw [f_X0_hasRoom] at h
  refine r_aload_n (pc' := 1) d_X0_hasRoom_0 rfl rfl rfl ?_
  refine r_get (v := vR 13 _) (pc' := 4) fl_X0_13 d_X0_hasRoom_1 rfl rfl (fun g => Or.inl ⟨rfl, g.2⟩) rfl ?_
  refine r_iload_n (pc' := 5) d_X0_hasRoom_4 rfl rfl rfl ?_
  refine l_rows (pc' := 6) d_X0_hasRoom_5 rfl h (fun q1 h => ?_)
  obtain ⟨i2, e, hn⟩ := elim_s h
  clear h; subst e; have h := hn; clear hn
  refine r_get (v := vI _) (pc' := 9) fl_X0_33 d_X0_hasRoom_6 rfl rfl (fun _ => trivial) rfl ?_
  refine r_bipush (pc' := 11) d_X0_hasRoom_9 cb_20 rfl ?_
  refine r_icmp_lt (pcT := 16) (pc' := 14) d_X0_hasRoom_11 rfl rfl h (fun _ h => ?_) (fun _ h => ?_)
  · refine r_iconst (pc' := 17) d_X0_hasRoom_16 ci_0 rfl ?_
    refine r_istore_n (pc' := 18) d_X0_hasRoom_17 rfl rfl rfl rfl ?_
    exact WM.drop [] rfl (t_X0_hasRoom_18 _ _ _ _ _ h)
  · refine r_iconst (pc' := 15) d_X0_hasRoom_14 ci_0 rfl ?_
    exact r_zret d_X0_hasRoom_15 rfl (Or.inl rfl) h
/-! OctagonYard$Assemblies.joinPiece(II)I -/
def mi_X0_joinPiece : MI := (yX0_joinPiece, cX0_joinPiece, 3, (some .int))
theorem d_X0_joinPiece_0 : decode mi_X0_joinPiece.2.1 0 = .ok (.aload_n 0, 1) := by decide +kernel
theorem d_X0_joinPiece_1 : decode mi_X0_joinPiece.2.1 1 = .ok (.iload_n 1, 1) := by decide +kernel
theorem d_X0_joinPiece_2 : decode mi_X0_joinPiece.2.1 2 = .ok (.iconst 1, 1) := by decide +kernel
theorem d_X0_joinPiece_3 : decode mi_X0_joinPiece.2.1 3 = .ok (.invokevirtual 41, 3) := by decide +kernel
theorem d_X0_joinPiece_6 : decode mi_X0_joinPiece.2.1 6 = .ok (.ifCond .ne 6, 3) := by decide +kernel
theorem d_X0_joinPiece_9 : decode mi_X0_joinPiece.2.1 9 = .ok (.bipush (-3), 2) := by decide +kernel
theorem d_X0_joinPiece_11 : decode mi_X0_joinPiece.2.1 11 = .ok (.ireturn, 1) := by decide +kernel
theorem d_X0_joinPiece_12 : decode mi_X0_joinPiece.2.1 12 = .ok (.aload_n 0, 1) := by decide +kernel
theorem d_X0_joinPiece_13 : decode mi_X0_joinPiece.2.1 13 = .ok (.iload_n 1, 1) := by decide +kernel
theorem d_X0_joinPiece_14 : decode mi_X0_joinPiece.2.1 14 = .ok (.iload_n 2, 1) := by decide +kernel
theorem d_X0_joinPiece_15 : decode mi_X0_joinPiece.2.1 15 = .ok (.iconst 0, 1) := by decide +kernel
theorem d_X0_joinPiece_16 : decode mi_X0_joinPiece.2.1 16 = .ok (.invokevirtual 45, 3) := by decide +kernel
theorem d_X0_joinPiece_19 : decode mi_X0_joinPiece.2.1 19 = .ok (.ireturn, 1) := by decide +kernel
theorem cb_m3 : (Int8.ofInt (-3)).toInt32 = -3 := by decide
theorem cw_X0_41 : CV RX0 41 mi_X0_hasRoom 2 := by unfold CV; decide +kernel
theorem cw_X0_45 : CV RX0 45 mi_X0_append 3 := by unfold CV; decide +kernel
def f_X0_joinPiece (v1 : Int32) (v2 : Int32) (σ : SS) : Option (Int32 × SS) := cal (f_X0_hasRoom v1 (1 : Int32) σ) (fun x2 s1 => if x2 = 0 then (some ((-3 : Int32), s1)) else (cal (f_X0_append v1 v2 (0 : Int32) s1) (fun x4 s3 => some (x4, s3))))
set_option maxRecDepth 20000 in
theorem t_X0_joinPiece {d : Nat} {b : Nat × Nat} {v1 : Int32} {v2 : Int32} {σ : SS} {r : Int32} {σ' : SS} (h : f_X0_joinPiece v1 v2 σ = some (r, σ')) : MM (d + 2) b mi_X0_joinPiece [vR 12 0, vI v1, vI v2] σ (some (vI r), σ') := by
  refine MM.of (lv := [some (vR 12 0), some (vI v1), some (vI v2)]) (by decide +kernel) rfl rfl (fun X Y => ?_)
  rw [f_X0_joinPiece] at h
  refine r_aload_n (pc' := 1) d_X0_joinPiece_0 rfl rfl rfl ?_
  refine r_iload_n (pc' := 2) d_X0_joinPiece_1 rfl rfl rfl ?_
  refine r_iconst (pc' := 3) d_X0_joinPiece_2 ci_1 rfl ?_
  refine v2_i (mc := mi_X0_hasRoom) (bc := (0, 0)) (b' := _) (pc' := 6) cw_X0_41 d_X0_joinPiece_3 rfl rfl rfl (Nat.zero_add _).symm (Nat.zero_add _).symm rfl h (fun _ _ e => t_X0_hasRoom e) (fun x2 s1 h => ?_)
  refine r_if_ne (pcT := 12) (pc' := 9) d_X0_joinPiece_6 rfl rfl h (fun _ h => ?_) (fun _ h => ?_)
  · refine r_bipush (pc' := 11) d_X0_joinPiece_9 cb_m3 rfl ?_
    exact r_iret d_X0_joinPiece_11 rfl h
  · refine r_aload_n (pc' := 13) d_X0_joinPiece_12 rfl rfl rfl ?_
    refine r_iload_n (pc' := 14) d_X0_joinPiece_13 rfl rfl rfl ?_
    refine r_iload_n (pc' := 15) d_X0_joinPiece_14 rfl rfl rfl ?_
    refine r_iconst (pc' := 16) d_X0_joinPiece_15 ci_0 rfl ?_
    refine v3_i (mc := mi_X0_append) (bc := (0, 0)) (b' := _) (pc' := 19) cw_X0_45 d_X0_joinPiece_16 rfl rfl rfl (Nat.zero_add _).symm (Nat.zero_add _).symm rfl h (fun _ _ e => t_X0_append e) (fun x4 s3 h => ?_)
    exact r_iret d_X0_joinPiece_19 rfl h
/-! OctagonYard$Assemblies.isWithin(II)Z -/
def mi_X0_isWithin : MI := (yX0_isWithin, cX0_isWithin, 3, (some .boolean))
theorem d_X0_isWithin_0 : decode mi_X0_isWithin.2.1 0 = .ok (.aload_n 0, 1) := by decide +kernel
theorem d_X0_isWithin_1 : decode mi_X0_isWithin.2.1 1 = .ok (.getfield 13, 3) := by decide +kernel
theorem d_X0_isWithin_4 : decode mi_X0_isWithin.2.1 4 = .ok (.iload_n 2, 1) := by decide +kernel
theorem d_X0_isWithin_5 : decode mi_X0_isWithin.2.1 5 = .ok (.aaload, 1) := by decide +kernel
theorem d_X0_isWithin_6 : decode mi_X0_isWithin.2.1 6 = .ok (.getfield 55, 3) := by decide +kernel
theorem d_X0_isWithin_9 : decode mi_X0_isWithin.2.1 9 = .ok (.iload_n 1, 1) := by decide +kernel
theorem d_X0_isWithin_10 : decode mi_X0_isWithin.2.1 10 = .ok (.ishr, 1) := by decide +kernel
theorem d_X0_isWithin_11 : decode mi_X0_isWithin.2.1 11 = .ok (.iconst 1, 1) := by decide +kernel
theorem d_X0_isWithin_12 : decode mi_X0_isWithin.2.1 12 = .ok (.iand, 1) := by decide +kernel
theorem d_X0_isWithin_13 : decode mi_X0_isWithin.2.1 13 = .ok (.ifCond .eq 7, 3) := by decide +kernel
theorem d_X0_isWithin_16 : decode mi_X0_isWithin.2.1 16 = .ok (.iconst 1, 1) := by decide +kernel
theorem d_X0_isWithin_17 : decode mi_X0_isWithin.2.1 17 = .ok (.goto 4, 3) := by decide +kernel
theorem d_X0_isWithin_20 : decode mi_X0_isWithin.2.1 20 = .ok (.iconst 0, 1) := by decide +kernel
theorem d_X0_isWithin_21 : decode mi_X0_isWithin.2.1 21 = .ok (.ireturn, 1) := by decide +kernel
def f_X0_isWithin (v1 : Int32) (v2 : Int32) (σ : SS) : Option (Int32 × SS) := chk (inr v2 12) (lt_ (if ix v2 < σ.2.2 then some (ix v2) else none) (fun q1 => Option.elim q1 none (fun i2 => if (((σ.1 22 i2 4) >>> (v1 &&& 31)) &&& (1 : Int32)) = 0 then (some ((0 : Int32), σ)) else (some ((1 : Int32), σ)))))
set_option maxRecDepth 20000 in
theorem t_X0_isWithin {d : Nat} {b : Nat × Nat} {v1 : Int32} {v2 : Int32} {σ : SS} {r : Int32} {σ' : SS} (h : f_X0_isWithin v1 v2 σ = some (r, σ')) : MM d b mi_X0_isWithin [vR 12 0, vI v1, vI v2] σ (some (vI r), σ') := by
  refine MM.of (lv := [some (vR 12 0), some (vI v1), some (vI v2)]) (by decide +kernel) rfl rfl (fun X Y => ?_)
  rw [f_X0_isWithin] at h
  refine r_aload_n (pc' := 1) d_X0_isWithin_0 rfl rfl rfl ?_
  refine r_get (v := vR 13 _) (pc' := 4) fl_X0_13 d_X0_isWithin_1 rfl rfl (fun g => Or.inl ⟨rfl, g.2⟩) rfl ?_
  refine r_iload_n (pc' := 5) d_X0_isWithin_4 rfl rfl rfl ?_
  refine l_rows (pc' := 6) d_X0_isWithin_5 rfl h (fun q1 h => ?_)
  obtain ⟨i2, e, hn⟩ := elim_s h
  clear h; subst e; have h := hn; clear hn
  refine r_get (v := vI _) (pc' := 9) fl_X0_55 d_X0_isWithin_6 rfl rfl (fun _ => trivial) rfl ?_
  refine r_iload_n (pc' := 10) d_X0_isWithin_9 rfl rfl rfl ?_
  refine r_ishr (pc' := 11) d_X0_isWithin_10 rfl ?_
  refine r_iconst (pc' := 12) d_X0_isWithin_11 ci_1 rfl ?_
  refine r_iand (pc' := 13) d_X0_isWithin_12 rfl ?_
  refine r_if_eq (pcT := 20) (pc' := 16) d_X0_isWithin_13 rfl rfl h (fun _ h => ?_) (fun _ h => ?_)
  · refine r_iconst (pc' := 21) d_X0_isWithin_20 ci_0 rfl ?_
    exact r_zret d_X0_isWithin_21 rfl (Or.inl rfl) h
  · refine r_iconst (pc' := 17) d_X0_isWithin_16 ci_1 rfl ?_
    refine r_goto (pc' := 21) d_X0_isWithin_17 rfl ?_
    exact r_zret d_X0_isWithin_21 rfl (Or.inr rfl) h
/-! OctagonYard$Assemblies.joinAssembly(II)I -/
def mi_X0_joinAssembly : MI := (yX0_joinAssembly, cX0_joinAssembly, 5, (some .int))
theorem d_X0_joinAssembly_0 : decode mi_X0_joinAssembly.2.1 0 = .ok (.iload_n 2, 1) := by decide +kernel
theorem d_X0_joinAssembly_1 : decode mi_X0_joinAssembly.2.1 1 = .ok (.iload_n 1, 1) := by decide +kernel
theorem d_X0_joinAssembly_2 : decode mi_X0_joinAssembly.2.1 2 = .ok (.if_icmp .eq 12, 3) := by decide +kernel
theorem d_X0_joinAssembly_5 : decode mi_X0_joinAssembly.2.1 5 = .ok (.aload_n 0, 1) := by decide +kernel
theorem d_X0_joinAssembly_6 : decode mi_X0_joinAssembly.2.1 6 = .ok (.iload_n 1, 1) := by decide +kernel
theorem d_X0_joinAssembly_7 : decode mi_X0_joinAssembly.2.1 7 = .ok (.iload_n 2, 1) := by decide +kernel
theorem d_X0_joinAssembly_8 : decode mi_X0_joinAssembly.2.1 8 = .ok (.invokevirtual 49, 3) := by decide +kernel
theorem d_X0_joinAssembly_11 : decode mi_X0_joinAssembly.2.1 11 = .ok (.ifCond .eq 6, 3) := by decide +kernel
theorem d_X0_joinAssembly_14 : decode mi_X0_joinAssembly.2.1 14 = .ok (.bipush (-2), 2) := by decide +kernel
theorem d_X0_joinAssembly_16 : decode mi_X0_joinAssembly.2.1 16 = .ok (.ireturn, 1) := by decide +kernel
theorem d_X0_joinAssembly_17 : decode mi_X0_joinAssembly.2.1 17 = .ok (.aload_n 0, 1) := by decide +kernel
theorem d_X0_joinAssembly_18 : decode mi_X0_joinAssembly.2.1 18 = .ok (.iload_n 1, 1) := by decide +kernel
theorem d_X0_joinAssembly_19 : decode mi_X0_joinAssembly.2.1 19 = .ok (.aload_n 0, 1) := by decide +kernel
theorem d_X0_joinAssembly_20 : decode mi_X0_joinAssembly.2.1 20 = .ok (.getfield 13, 3) := by decide +kernel
theorem d_X0_joinAssembly_23 : decode mi_X0_joinAssembly.2.1 23 = .ok (.iload_n 2, 1) := by decide +kernel
theorem d_X0_joinAssembly_24 : decode mi_X0_joinAssembly.2.1 24 = .ok (.aaload, 1) := by decide +kernel
theorem d_X0_joinAssembly_25 : decode mi_X0_joinAssembly.2.1 25 = .ok (.getfield 52, 3) := by decide +kernel
theorem d_X0_joinAssembly_28 : decode mi_X0_joinAssembly.2.1 28 = .ok (.invokevirtual 41, 3) := by decide +kernel
theorem d_X0_joinAssembly_31 : decode mi_X0_joinAssembly.2.1 31 = .ok (.ifCond .ne 6, 3) := by decide +kernel
theorem d_X0_joinAssembly_34 : decode mi_X0_joinAssembly.2.1 34 = .ok (.bipush (-3), 2) := by decide +kernel
theorem d_X0_joinAssembly_36 : decode mi_X0_joinAssembly.2.1 36 = .ok (.ireturn, 1) := by decide +kernel
theorem d_X0_joinAssembly_37 : decode mi_X0_joinAssembly.2.1 37 = .ok (.aload_n 0, 1) := by decide +kernel
theorem d_X0_joinAssembly_38 : decode mi_X0_joinAssembly.2.1 38 = .ok (.getfield 13, 3) := by decide +kernel
theorem d_X0_joinAssembly_41 : decode mi_X0_joinAssembly.2.1 41 = .ok (.iload_n 2, 1) := by decide +kernel
theorem d_X0_joinAssembly_42 : decode mi_X0_joinAssembly.2.1 42 = .ok (.aaload, 1) := by decide +kernel
theorem d_X0_joinAssembly_43 : decode mi_X0_joinAssembly.2.1 43 = .ok (.getfield 55, 3) := by decide +kernel
theorem d_X0_joinAssembly_46 : decode mi_X0_joinAssembly.2.1 46 = .ok (.iconst 1, 1) := by decide +kernel
theorem d_X0_joinAssembly_47 : decode mi_X0_joinAssembly.2.1 47 = .ok (.iload_n 2, 1) := by decide +kernel
theorem d_X0_joinAssembly_48 : decode mi_X0_joinAssembly.2.1 48 = .ok (.ishl, 1) := by decide +kernel
theorem d_X0_joinAssembly_49 : decode mi_X0_joinAssembly.2.1 49 = .ok (.ior, 1) := by decide +kernel
theorem d_X0_joinAssembly_50 : decode mi_X0_joinAssembly.2.1 50 = .ok (.istore_n 3, 1) := by decide +kernel
theorem d_X0_joinAssembly_51 : decode mi_X0_joinAssembly.2.1 51 = .ok (.iconst 0, 1) := by decide +kernel
theorem d_X0_joinAssembly_52 : decode mi_X0_joinAssembly.2.1 52 = .ok (.istore 4, 2) := by decide +kernel
theorem d_X0_joinAssembly_54 : decode mi_X0_joinAssembly.2.1 54 = .ok (.iload 4, 2) := by decide +kernel
theorem d_X0_joinAssembly_56 : decode mi_X0_joinAssembly.2.1 56 = .ok (.aload_n 0, 1) := by decide +kernel
theorem d_X0_joinAssembly_57 : decode mi_X0_joinAssembly.2.1 57 = .ok (.getfield 24, 3) := by decide +kernel
theorem d_X0_joinAssembly_60 : decode mi_X0_joinAssembly.2.1 60 = .ok (.if_icmp .ge 41, 3) := by decide +kernel
theorem d_X0_joinAssembly_63 : decode mi_X0_joinAssembly.2.1 63 = .ok (.iload 4, 2) := by decide +kernel
theorem d_X0_joinAssembly_65 : decode mi_X0_joinAssembly.2.1 65 = .ok (.iload_n 1, 1) := by decide +kernel
theorem d_X0_joinAssembly_66 : decode mi_X0_joinAssembly.2.1 66 = .ok (.if_icmp .eq 13, 3) := by decide +kernel
theorem d_X0_joinAssembly_69 : decode mi_X0_joinAssembly.2.1 69 = .ok (.aload_n 0, 1) := by decide +kernel
theorem d_X0_joinAssembly_70 : decode mi_X0_joinAssembly.2.1 70 = .ok (.iload_n 1, 1) := by decide +kernel
theorem d_X0_joinAssembly_71 : decode mi_X0_joinAssembly.2.1 71 = .ok (.iload 4, 2) := by decide +kernel
theorem d_X0_joinAssembly_73 : decode mi_X0_joinAssembly.2.1 73 = .ok (.invokevirtual 49, 3) := by decide +kernel
theorem d_X0_joinAssembly_76 : decode mi_X0_joinAssembly.2.1 76 = .ok (.ifCond .eq 19, 3) := by decide +kernel
theorem d_X0_joinAssembly_79 : decode mi_X0_joinAssembly.2.1 79 = .ok (.aload_n 0, 1) := by decide +kernel
theorem d_X0_joinAssembly_80 : decode mi_X0_joinAssembly.2.1 80 = .ok (.getfield 13, 3) := by decide +kernel
theorem d_X0_joinAssembly_83 : decode mi_X0_joinAssembly.2.1 83 = .ok (.iload 4, 2) := by decide +kernel
theorem d_X0_joinAssembly_85 : decode mi_X0_joinAssembly.2.1 85 = .ok (.aaload, 1) := by decide +kernel
theorem d_X0_joinAssembly_86 : decode mi_X0_joinAssembly.2.1 86 = .ok (.dup, 1) := by decide +kernel
theorem d_X0_joinAssembly_87 : decode mi_X0_joinAssembly.2.1 87 = .ok (.getfield 55, 3) := by decide +kernel
theorem d_X0_joinAssembly_90 : decode mi_X0_joinAssembly.2.1 90 = .ok (.iload_n 3, 1) := by decide +kernel
theorem d_X0_joinAssembly_91 : decode mi_X0_joinAssembly.2.1 91 = .ok (.ior, 1) := by decide +kernel
theorem d_X0_joinAssembly_92 : decode mi_X0_joinAssembly.2.1 92 = .ok (.putfield 55, 3) := by decide +kernel
theorem d_X0_joinAssembly_95 : decode mi_X0_joinAssembly.2.1 95 = .ok (.iinc 4 1, 3) := by decide +kernel
theorem d_X0_joinAssembly_98 : decode mi_X0_joinAssembly.2.1 98 = .ok (.goto (-44), 3) := by decide +kernel
theorem d_X0_joinAssembly_101 : decode mi_X0_joinAssembly.2.1 101 = .ok (.aload_n 0, 1) := by decide +kernel
theorem d_X0_joinAssembly_102 : decode mi_X0_joinAssembly.2.1 102 = .ok (.iload_n 1, 1) := by decide +kernel
theorem d_X0_joinAssembly_103 : decode mi_X0_joinAssembly.2.1 103 = .ok (.iload_n 2, 1) := by decide +kernel
theorem d_X0_joinAssembly_104 : decode mi_X0_joinAssembly.2.1 104 = .ok (.iconst 1, 1) := by decide +kernel
theorem d_X0_joinAssembly_105 : decode mi_X0_joinAssembly.2.1 105 = .ok (.invokevirtual 45, 3) := by decide +kernel
theorem d_X0_joinAssembly_108 : decode mi_X0_joinAssembly.2.1 108 = .ok (.ireturn, 1) := by decide +kernel
theorem cb_m2 : (Int8.ofInt (-2)).toInt32 = -2 := by decide
theorem fw_1_4 : FW 1 5 4 .int := ⟨RX1, TX1, tyX1, rfl, rfl, by decide +kernel, tyX1_ok, nmX1⟩
theorem cw_X0_49 : CV RX0 49 mi_X0_isWithin 2 := by unfold CV; decide +kernel
def f_X0_joinAssembly_101 (v1 : Int32) (v2 : Int32) (σ : SS) : Option (Int32 × SS) := cal (f_X0_append v1 v2 (1 : Int32) σ) (fun x2 s1 => some (x2, s1))
set_option maxRecDepth 20000 in
theorem t_X0_joinAssembly_101 {d : Nat} {X : MX} {Y : MY} {b : Nat × Nat} {r : Int32} {σ' : SS} {v1 : Int32} {v2 : Int32} {σ : SS} (h : f_X0_joinAssembly_101 v1 v2 σ = some (r, σ')) : WM (d + 2) X Y b mi_X0_joinAssembly 101 [some (vR 12 0), some (vI v1), some (vI v2), none, none] [] σ (some (vI r), σ') := by
  rw [f_X0_joinAssembly_101] at h
  refine r_aload_n (pc' := 102) d_X0_joinAssembly_101 rfl rfl rfl ?_
  refine r_iload_n (pc' := 103) d_X0_joinAssembly_102 rfl rfl rfl ?_
  refine r_iload_n (pc' := 104) d_X0_joinAssembly_103 rfl rfl rfl ?_
  refine r_iconst (pc' := 105) d_X0_joinAssembly_104 ci_1 rfl ?_
  refine v3_i (mc := mi_X0_append) (bc := (0, 0)) (b' := _) (pc' := 108) cw_X0_45 d_X0_joinAssembly_105 rfl rfl rfl (Nat.zero_add _).symm (Nat.zero_add _).symm rfl h (fun _ _ e => t_X0_append e) (fun x2 s1 h => ?_)
  exact r_iret d_X0_joinAssembly_108 rfl h
def f_X0_joinAssembly_95 (K54 : Int32 → Int32 → Int32 → Int32 → SS → Option (Int32 × SS)) (v1 : Int32) (v2 : Int32) (v3 : Int32) (v4 : Int32) (σ : SS) : Option (Int32 × SS) := lt_ (v4 + (1 : Int32)) (fun x1 => K54 v1 v2 v3 x1 σ)
set_option maxRecDepth 20000 in
theorem t_X0_joinAssembly_95 {d : Nat} {X : MX} {Y : MY} {b : Nat × Nat} {r : Int32} {σ' : SS} {K54 : Int32 → Int32 → Int32 → Int32 → SS → Option (Int32 × SS)} {v1 : Int32} {v2 : Int32} {v3 : Int32} {v4 : Int32} (hK54 : ∀ (v1 : Int32) (v2 : Int32) (v3 : Int32) (v4 : Int32) (σ : SS), K54 v1 v2 v3 v4 σ = some (r, σ') → WM (d + 2) X Y b mi_X0_joinAssembly 54 [some (vR 12 0), some (vI v1), some (vI v2), some (vI v3), some (vI v4)] [] σ (some (vI r), σ')) {σ : SS} (h : f_X0_joinAssembly_95 K54 v1 v2 v3 v4 σ = some (r, σ')) : WM (d + 2) X Y b mi_X0_joinAssembly 95 [some (vR 12 0), some (vI v1), some (vI v2), some (vI v3), some (vI v4)] [] σ (some (vI r), σ') := by
  rw [f_X0_joinAssembly_95] at h
  refine l_iinc (pc' := 98) d_X0_joinAssembly_95 rfl ci_1 rfl rfl rfl h (fun x1 h => ?_)
  refine r_goto (pc' := 54) d_X0_joinAssembly_98 rfl ?_
  exact WM.drop [] rfl (hK54 _ _ _ _ _ h)
def f_X0_joinAssembly_79 (K54 : Int32 → Int32 → Int32 → Int32 → SS → Option (Int32 × SS)) (v1 : Int32) (v2 : Int32) (v3 : Int32) (v4 : Int32) (σ : SS) : Option (Int32 × SS) := chk (inr v4 12) (lt_ (if ix v4 < σ.2.2 then some (ix v4) else none) (fun q1 => Option.elim q1 none (fun i2 => lt_ (up σ 22 i2 4 ((σ.1 22 i2 4) ||| v3)) (fun s3 => f_X0_joinAssembly_95 K54 v1 v2 v3 v4 s3))))
set_option maxRecDepth 20000 in
theorem t_X0_joinAssembly_79 {d : Nat} {X : MX} {Y : MY} {b : Nat × Nat} {r : Int32} {σ' : SS} {K54 : Int32 → Int32 → Int32 → Int32 → SS → Option (Int32 × SS)} {v1 : Int32} {v2 : Int32} {v3 : Int32} {v4 : Int32} (hK54 : ∀ (v1 : Int32) (v2 : Int32) (v3 : Int32) (v4 : Int32) (σ : SS), K54 v1 v2 v3 v4 σ = some (r, σ') → WM (d + 2) X Y b mi_X0_joinAssembly 54 [some (vR 12 0), some (vI v1), some (vI v2), some (vI v3), some (vI v4)] [] σ (some (vI r), σ')) {σ : SS} (h : f_X0_joinAssembly_79 K54 v1 v2 v3 v4 σ = some (r, σ')) : WM (d + 2) X Y b mi_X0_joinAssembly 79 [some (vR 12 0), some (vI v1), some (vI v2), some (vI v3), some (vI v4)] [] σ (some (vI r), σ') := by
  rw [f_X0_joinAssembly_79] at h
  refine r_aload_n (pc' := 80) d_X0_joinAssembly_79 rfl rfl rfl ?_
  refine r_get (v := vR 13 _) (pc' := 83) fl_X0_13 d_X0_joinAssembly_80 rfl rfl (fun g => Or.inl ⟨rfl, g.2⟩) rfl ?_
  refine r_iload (pc' := 85) d_X0_joinAssembly_83 rfl rfl ?_
  refine l_rows (pc' := 86) d_X0_joinAssembly_85 rfl h (fun q1 h => ?_)
  refine r_dup (pc' := 87) d_X0_joinAssembly_86 rfl rfl ?_
  obtain ⟨i2, e, hn⟩ := elim_s h
  clear h; subst e; have h := hn; clear hn
  refine r_get (v := vI _) (pc' := 90) fl_X0_55 d_X0_joinAssembly_87 rfl rfl (fun _ => trivial) rfl ?_
  refine r_iload_n (pc' := 91) d_X0_joinAssembly_90 rfl rfl rfl ?_
  refine r_ior (pc' := 92) d_X0_joinAssembly_91 rfl ?_
  refine l_put (k := 4) (pc' := 95) fl_X0_55 fw_1_4 rfl rfl d_X0_joinAssembly_92 rfl (by decide) (by decide) rfl rfl h (fun s3 h => ?_)
  exact WM.drop [] rfl (t_X0_joinAssembly_95 hK54 h)
def f_X0_joinAssembly_54 : Nat → Int32 → Int32 → Int32 → Int32 → SS → Option (Int32 × SS)
  | 0, _, _, _, _, _ => none
  | n + 1, v1, v2, v3, v4, σ => if (σ.1 12 0 1) ≤ v4 then (f_X0_joinAssembly_101 v1 v2 σ) else (if v4 = v1 then (f_X0_joinAssembly_79 (f_X0_joinAssembly_54 n) v1 v2 v3 v4 σ) else (cal (f_X0_isWithin v1 v4 σ) (fun x2 s1 => if x2 = 0 then (f_X0_joinAssembly_95 (f_X0_joinAssembly_54 n) v1 v2 v3 v4 s1) else (f_X0_joinAssembly_79 (f_X0_joinAssembly_54 n) v1 v2 v3 v4 s1))))
set_option maxRecDepth 20000 in
theorem t_X0_joinAssembly_54 {d : Nat} {X : MX} {Y : MY} {b : Nat × Nat} {r : Int32} {σ' : SS} : ∀ (n : Nat) (v1 : Int32) (v2 : Int32) (v3 : Int32) (v4 : Int32) (σ : SS), f_X0_joinAssembly_54 n v1 v2 v3 v4 σ = some (r, σ') → WM (d + 2) X Y b mi_X0_joinAssembly 54 [some (vR 12 0), some (vI v1), some (vI v2), some (vI v3), some (vI v4)] [] σ (some (vI r), σ') := by
  intro n
  induction n with
  | zero => intro _ _ _ _ σ h; cases h
  | succ n ih =>
    intro v1 v2 v3 v4 σ h
    rw [f_X0_joinAssembly_54] at h
    refine r_iload (pc' := 56) d_X0_joinAssembly_54 rfl rfl ?_
    refine r_aload_n (pc' := 57) d_X0_joinAssembly_56 rfl rfl rfl ?_
    refine r_get (v := vI _) (pc' := 60) fl_X0_24 d_X0_joinAssembly_57 rfl rfl (fun _ => trivial) rfl ?_
    refine r_icmp_ge (pcT := 101) (pc' := 63) d_X0_joinAssembly_60 rfl rfl h (fun _ h => ?_) (fun _ h => ?_)
    · exact WM.drop [3, 4] rfl (t_X0_joinAssembly_101 h)
    · refine r_iload (pc' := 65) d_X0_joinAssembly_63 rfl rfl ?_
      refine r_iload_n (pc' := 66) d_X0_joinAssembly_65 rfl rfl rfl ?_
      refine r_icmp_eq (pcT := 79) (pc' := 69) d_X0_joinAssembly_66 rfl rfl h (fun _ h => ?_) (fun _ h => ?_)
      · exact WM.drop [] rfl (t_X0_joinAssembly_79 ih h)
      · refine r_aload_n (pc' := 70) d_X0_joinAssembly_69 rfl rfl rfl ?_
        refine r_iload_n (pc' := 71) d_X0_joinAssembly_70 rfl rfl rfl ?_
        refine r_iload (pc' := 73) d_X0_joinAssembly_71 rfl rfl ?_
        refine v2_i (mc := mi_X0_isWithin) (bc := (0, 0)) (b' := _) (pc' := 76) cw_X0_49 d_X0_joinAssembly_73 rfl rfl rfl (Nat.zero_add _).symm (Nat.zero_add _).symm rfl h (fun _ _ e => t_X0_isWithin e) (fun x2 s1 h => ?_)
        refine r_if_eq (pcT := 95) (pc' := 79) d_X0_joinAssembly_76 rfl rfl h (fun _ h => ?_) (fun _ h => ?_)
        · exact WM.drop [] rfl (t_X0_joinAssembly_95 ih h)
        · exact WM.drop [] rfl (t_X0_joinAssembly_79 ih h)
def f_X0_joinAssembly (v1 : Int32) (v2 : Int32) (σ : SS) : Option (Int32 × SS) := if v2 = v1 then (some ((-2 : Int32), σ)) else (cal (f_X0_isWithin v1 v2 σ) (fun x2 s1 => if x2 = 0 then (chk (inr v2 12) (lt_ (if ix v2 < s1.2.2 then some (ix v2) else none) (fun q3 => Option.elim q3 none (fun i4 => cal (f_X0_hasRoom v1 (s1.1 22 i4 3) s1) (fun x6 s5 => if x6 = 0 then (some ((-3 : Int32), s5)) else (chk (inr v2 12) (lt_ (if ix v2 < s5.2.2 then some (ix v2) else none) (fun q7 => Option.elim q7 none (fun i8 => lt_ ((s5.1 22 i8 4) ||| ((1 : Int32) <<< (v2 &&& 31))) (fun x9 => f_X0_joinAssembly_54 FU v1 v2 x9 (0 : Int32) s5)))))))))) else (some ((-2 : Int32), s1))))
set_option maxRecDepth 20000 in
theorem t_X0_joinAssembly {d : Nat} {b : Nat × Nat} {v1 : Int32} {v2 : Int32} {σ : SS} {r : Int32} {σ' : SS} (h : f_X0_joinAssembly v1 v2 σ = some (r, σ')) : MM (d + 2) b mi_X0_joinAssembly [vR 12 0, vI v1, vI v2] σ (some (vI r), σ') := by
  refine MM.of (lv := [some (vR 12 0), some (vI v1), some (vI v2), none, none]) (by decide +kernel) rfl rfl (fun X Y => ?_)
  rw [f_X0_joinAssembly] at h
  refine r_iload_n (pc' := 1) d_X0_joinAssembly_0 rfl rfl rfl ?_
  refine r_iload_n (pc' := 2) d_X0_joinAssembly_1 rfl rfl rfl ?_
  refine r_icmp_eq (pcT := 14) (pc' := 5) d_X0_joinAssembly_2 rfl rfl h (fun _ h => ?_) (fun _ h => ?_)
  · refine r_bipush (pc' := 16) d_X0_joinAssembly_14 cb_m2 rfl ?_
    exact r_iret d_X0_joinAssembly_16 rfl h
  · refine r_aload_n (pc' := 6) d_X0_joinAssembly_5 rfl rfl rfl ?_
    refine r_iload_n (pc' := 7) d_X0_joinAssembly_6 rfl rfl rfl ?_
    refine r_iload_n (pc' := 8) d_X0_joinAssembly_7 rfl rfl rfl ?_
    refine v2_i (mc := mi_X0_isWithin) (bc := (0, 0)) (b' := _) (pc' := 11) cw_X0_49 d_X0_joinAssembly_8 rfl rfl rfl (Nat.zero_add _).symm (Nat.zero_add _).symm rfl h (fun _ _ e => t_X0_isWithin e) (fun x2 s1 h => ?_)
    refine r_if_eq (pcT := 17) (pc' := 14) d_X0_joinAssembly_11 rfl rfl h (fun _ h => ?_) (fun _ h => ?_)
    · refine r_aload_n (pc' := 18) d_X0_joinAssembly_17 rfl rfl rfl ?_
      refine r_iload_n (pc' := 19) d_X0_joinAssembly_18 rfl rfl rfl ?_
      refine r_aload_n (pc' := 20) d_X0_joinAssembly_19 rfl rfl rfl ?_
      refine r_get (v := vR 13 _) (pc' := 23) fl_X0_13 d_X0_joinAssembly_20 rfl rfl (fun g => Or.inl ⟨rfl, g.2⟩) rfl ?_
      refine r_iload_n (pc' := 24) d_X0_joinAssembly_23 rfl rfl rfl ?_
      refine l_rows (pc' := 25) d_X0_joinAssembly_24 rfl h (fun q3 h => ?_)
      obtain ⟨i4, e, hn⟩ := elim_s h
      clear h; subst e; have h := hn; clear hn
      refine r_get (v := vI _) (pc' := 28) fl_X0_52 d_X0_joinAssembly_25 rfl rfl (fun _ => trivial) rfl ?_
      refine v2_i (mc := mi_X0_hasRoom) (bc := (0, 0)) (b' := _) (pc' := 31) cw_X0_41 d_X0_joinAssembly_28 rfl rfl rfl (Nat.zero_add _).symm (Nat.zero_add _).symm rfl h (fun _ _ e => t_X0_hasRoom e) (fun x6 s5 h => ?_)
      refine r_if_ne (pcT := 37) (pc' := 34) d_X0_joinAssembly_31 rfl rfl h (fun _ h => ?_) (fun _ h => ?_)
      · refine r_bipush (pc' := 36) d_X0_joinAssembly_34 cb_m3 rfl ?_
        exact r_iret d_X0_joinAssembly_36 rfl h
      · refine r_aload_n (pc' := 38) d_X0_joinAssembly_37 rfl rfl rfl ?_
        refine r_get (v := vR 13 _) (pc' := 41) fl_X0_13 d_X0_joinAssembly_38 rfl rfl (fun g => Or.inl ⟨rfl, g.2⟩) rfl ?_
        refine r_iload_n (pc' := 42) d_X0_joinAssembly_41 rfl rfl rfl ?_
        refine l_rows (pc' := 43) d_X0_joinAssembly_42 rfl h (fun q7 h => ?_)
        obtain ⟨i8, e, hn⟩ := elim_s h
        clear h; subst e; have h := hn; clear hn
        refine r_get (v := vI _) (pc' := 46) fl_X0_55 d_X0_joinAssembly_43 rfl rfl (fun _ => trivial) rfl ?_
        refine r_iconst (pc' := 47) d_X0_joinAssembly_46 ci_1 rfl ?_
        refine r_iload_n (pc' := 48) d_X0_joinAssembly_47 rfl rfl rfl ?_
        refine r_ishl (pc' := 49) d_X0_joinAssembly_48 rfl ?_
        refine r_ior (pc' := 50) d_X0_joinAssembly_49 rfl ?_
        refine l_istore_n (pc' := 51) d_X0_joinAssembly_50 rfl rfl rfl rfl h (fun x9 h => ?_)
        refine r_iconst (pc' := 52) d_X0_joinAssembly_51 ci_0 rfl ?_
        refine r_istore (pc' := 54) d_X0_joinAssembly_52 rfl rfl rfl ?_
        exact WM.drop [] rfl (t_X0_joinAssembly_54 _ _ _ _ _ _ h)
    · refine r_bipush (pc' := 16) d_X0_joinAssembly_14 cb_m2 rfl ?_
      exact r_iret d_X0_joinAssembly_16 rfl h
/-! OctagonYard$Assemblies.gatherPiece(I)V -/
def mi_X0_gatherPiece : MI := (yX0_gatherPiece, cX0_gatherPiece, 2, none)
theorem d_X0_gatherPiece_0 : decode mi_X0_gatherPiece.2.1 0 = .ok (.aload_n 0, 1) := by decide +kernel
theorem d_X0_gatherPiece_1 : decode mi_X0_gatherPiece.2.1 1 = .ok (.getfield 68, 3) := by decide +kernel
theorem d_X0_gatherPiece_4 : decode mi_X0_gatherPiece.2.1 4 = .ok (.sipush 500, 3) := by decide +kernel
theorem d_X0_gatherPiece_7 : decode mi_X0_gatherPiece.2.1 7 = .ok (.if_icmp .ge 23, 3) := by decide +kernel
theorem d_X0_gatherPiece_10 : decode mi_X0_gatherPiece.2.1 10 = .ok (.aload_n 0, 1) := by decide +kernel
theorem d_X0_gatherPiece_11 : decode mi_X0_gatherPiece.2.1 11 = .ok (.getfield 17, 3) := by decide +kernel
theorem d_X0_gatherPiece_14 : decode mi_X0_gatherPiece.2.1 14 = .ok (.aload_n 0, 1) := by decide +kernel
theorem d_X0_gatherPiece_15 : decode mi_X0_gatherPiece.2.1 15 = .ok (.getfield 68, 3) := by decide +kernel
theorem d_X0_gatherPiece_18 : decode mi_X0_gatherPiece.2.1 18 = .ok (.iload_n 1, 1) := by decide +kernel
theorem d_X0_gatherPiece_19 : decode mi_X0_gatherPiece.2.1 19 = .ok (.iastore, 1) := by decide +kernel
theorem d_X0_gatherPiece_20 : decode mi_X0_gatherPiece.2.1 20 = .ok (.aload_n 0, 1) := by decide +kernel
theorem d_X0_gatherPiece_21 : decode mi_X0_gatherPiece.2.1 21 = .ok (.dup, 1) := by decide +kernel
theorem d_X0_gatherPiece_22 : decode mi_X0_gatherPiece.2.1 22 = .ok (.getfield 68, 3) := by decide +kernel
theorem d_X0_gatherPiece_25 : decode mi_X0_gatherPiece.2.1 25 = .ok (.iconst 1, 1) := by decide +kernel
theorem d_X0_gatherPiece_26 : decode mi_X0_gatherPiece.2.1 26 = .ok (.iadd, 1) := by decide +kernel
theorem d_X0_gatherPiece_27 : decode mi_X0_gatherPiece.2.1 27 = .ok (.putfield 68, 3) := by decide +kernel
theorem d_X0_gatherPiece_30 : decode mi_X0_gatherPiece.2.1 30 = .ok (.return_, 1) := by decide +kernel
theorem fl_X0_17 : FL RX0 17 0 5 2 := ⟨RX0, TX0, rfl, by decide, rfl, by decide +kernel, in_0⟩
theorem fl_X0_68 : FL RX0 68 0 5 3 := ⟨RX0, TX0, rfl, by decide, rfl, by decide +kernel, in_0⟩
theorem fw_0_3 : FW 0 5 3 .int := ⟨RX0, TX0, tyX0, rfl, rfl, by decide +kernel, tyX0_ok, nmX0⟩
def f_X0_gatherPiece (v1 : Int32) (σ : SS) : Option (Unit × SS) := if (500 : Int32) ≤ (σ.1 12 0 3) then (some ((), σ)) else (chk (inr (σ.1 12 0 3) 500) (lt_ (up σ 14 0 (ix (σ.1 12 0 3)) v1) (fun s1 => lt_ (up s1 12 0 3 ((s1.1 12 0 3) + (1 : Int32))) (fun s2 => some ((), s2)))))
set_option maxRecDepth 20000 in
theorem t_X0_gatherPiece {d : Nat} {b : Nat × Nat} {v1 : Int32} {σ : SS} {r : Unit} {σ' : SS} (h : f_X0_gatherPiece v1 σ = some (r, σ')) : MM d b mi_X0_gatherPiece [vR 12 0, vI v1] σ (none, σ') := by
  refine MM.of (lv := [some (vR 12 0), some (vI v1)]) (by decide +kernel) rfl rfl (fun X Y => ?_)
  rw [f_X0_gatherPiece] at h
  refine r_aload_n (pc' := 1) d_X0_gatherPiece_0 rfl rfl rfl ?_
  refine r_get (v := vI _) (pc' := 4) fl_X0_68 d_X0_gatherPiece_1 rfl rfl (fun _ => trivial) rfl ?_
  refine r_sipush (pc' := 7) d_X0_gatherPiece_4 cs_500 rfl ?_
  refine r_icmp_ge (pcT := 30) (pc' := 10) d_X0_gatherPiece_7 rfl rfl h (fun _ h => ?_) (fun _ h => ?_)
  · exact r_vret d_X0_gatherPiece_30 rfl h
  · refine r_aload_n (pc' := 11) d_X0_gatherPiece_10 rfl rfl rfl ?_
    refine r_get (v := vR 14 _) (pc' := 14) fl_X0_17 d_X0_gatherPiece_11 rfl rfl (fun g => Or.inl ⟨rfl, g.2⟩) rfl ?_
    refine r_aload_n (pc' := 15) d_X0_gatherPiece_14 rfl rfl rfl ?_
    refine r_get (v := vI _) (pc' := 18) fl_X0_68 d_X0_gatherPiece_15 rfl rfl (fun _ => trivial) rfl ?_
    refine r_iload_n (pc' := 19) d_X0_gatherPiece_18 rfl rfl rfl ?_
    refine l_iastore (pc' := 20) d_X0_gatherPiece_19 rfl (fun _ => rfl) (by decide) (by decide) (fun _ => rfl) rfl h (fun s1 h => ?_)
    refine r_aload_n (pc' := 21) d_X0_gatherPiece_20 rfl rfl rfl ?_
    refine r_dup (pc' := 22) d_X0_gatherPiece_21 rfl rfl ?_
    refine r_get (v := vI _) (pc' := 25) fl_X0_68 d_X0_gatherPiece_22 rfl rfl (fun _ => trivial) rfl ?_
    refine r_iconst (pc' := 26) d_X0_gatherPiece_25 ci_1 rfl ?_
    refine r_iadd (pc' := 27) d_X0_gatherPiece_26 rfl ?_
    refine l_put (k := 3) (pc' := 30) fl_X0_68 fw_0_3 rfl rfl d_X0_gatherPiece_27 rfl (by decide) (by decide) rfl rfl h (fun s2 h => ?_)
    exact r_vret d_X0_gatherPiece_30 rfl h
/-! OctagonYard$Assemblies.gatherDown(LOctagonYard$Assemblies;II)V -/
def mi_X0_gatherDown : MI := (yX0_gatherDown, cX0_gatherDown, 6, none)
theorem d_X0_gatherDown_0 : decode mi_X0_gatherDown.2.1 0 = .ok (.iload_n 2, 1) := by decide +kernel
theorem d_X0_gatherDown_1 : decode mi_X0_gatherDown.2.1 1 = .ok (.bipush 12, 2) := by decide +kernel
theorem d_X0_gatherDown_3 : decode mi_X0_gatherDown.2.1 3 = .ok (.if_icmp .lt 4, 3) := by decide +kernel
theorem d_X0_gatherDown_6 : decode mi_X0_gatherDown.2.1 6 = .ok (.return_, 1) := by decide +kernel
theorem d_X0_gatherDown_7 : decode mi_X0_gatherDown.2.1 7 = .ok (.aload_n 0, 1) := by decide +kernel
theorem d_X0_gatherDown_8 : decode mi_X0_gatherDown.2.1 8 = .ok (.getfield 13, 3) := by decide +kernel
theorem d_X0_gatherDown_11 : decode mi_X0_gatherDown.2.1 11 = .ok (.iload_n 1, 1) := by decide +kernel
theorem d_X0_gatherDown_12 : decode mi_X0_gatherDown.2.1 12 = .ok (.aaload, 1) := by decide +kernel
theorem d_X0_gatherDown_13 : decode mi_X0_gatherDown.2.1 13 = .ok (.astore_n 3, 1) := by decide +kernel
theorem d_X0_gatherDown_14 : decode mi_X0_gatherDown.2.1 14 = .ok (.iconst 0, 1) := by decide +kernel
theorem d_X0_gatherDown_15 : decode mi_X0_gatherDown.2.1 15 = .ok (.istore 4, 2) := by decide +kernel
theorem d_X0_gatherDown_17 : decode mi_X0_gatherDown.2.1 17 = .ok (.iload 4, 2) := by decide +kernel
theorem d_X0_gatherDown_19 : decode mi_X0_gatherDown.2.1 19 = .ok (.aload_n 3, 1) := by decide +kernel
theorem d_X0_gatherDown_20 : decode mi_X0_gatherDown.2.1 20 = .ok (.getfield 33, 3) := by decide +kernel
theorem d_X0_gatherDown_23 : decode mi_X0_gatherDown.2.1 23 = .ok (.if_icmp .ge 59, 3) := by decide +kernel
theorem d_X0_gatherDown_26 : decode mi_X0_gatherDown.2.1 26 = .ok (.aload_n 3, 1) := by decide +kernel
theorem d_X0_gatherDown_27 : decode mi_X0_gatherDown.2.1 27 = .ok (.getfield 38, 3) := by decide +kernel
theorem d_X0_gatherDown_30 : decode mi_X0_gatherDown.2.1 30 = .ok (.iload 4, 2) := by decide +kernel
theorem d_X0_gatherDown_32 : decode mi_X0_gatherDown.2.1 32 = .ok (.iaload, 1) := by decide +kernel
theorem d_X0_gatherDown_33 : decode mi_X0_gatherDown.2.1 33 = .ok (.istore 5, 2) := by decide +kernel
theorem d_X0_gatherDown_35 : decode mi_X0_gatherDown.2.1 35 = .ok (.aload_n 3, 1) := by decide +kernel
theorem d_X0_gatherDown_36 : decode mi_X0_gatherDown.2.1 36 = .ok (.getfield 34, 3) := by decide +kernel
theorem d_X0_gatherDown_39 : decode mi_X0_gatherDown.2.1 39 = .ok (.iload 4, 2) := by decide +kernel
theorem d_X0_gatherDown_41 : decode mi_X0_gatherDown.2.1 41 = .ok (.baload, 1) := by decide +kernel
theorem d_X0_gatherDown_42 : decode mi_X0_gatherDown.2.1 42 = .ok (.ifCond .ne 12, 3) := by decide +kernel
theorem d_X0_gatherDown_45 : decode mi_X0_gatherDown.2.1 45 = .ok (.aload_n 0, 1) := by decide +kernel
theorem d_X0_gatherDown_46 : decode mi_X0_gatherDown.2.1 46 = .ok (.iload 5, 2) := by decide +kernel
theorem d_X0_gatherDown_48 : decode mi_X0_gatherDown.2.1 48 = .ok (.invokevirtual 75, 3) := by decide +kernel
theorem d_X0_gatherDown_51 : decode mi_X0_gatherDown.2.1 51 = .ok (.goto 25, 3) := by decide +kernel
theorem d_X0_gatherDown_54 : decode mi_X0_gatherDown.2.1 54 = .ok (.aload_n 0, 1) := by decide +kernel
theorem d_X0_gatherDown_55 : decode mi_X0_gatherDown.2.1 55 = .ok (.getfield 13, 3) := by decide +kernel
theorem d_X0_gatherDown_58 : decode mi_X0_gatherDown.2.1 58 = .ok (.iload 5, 2) := by decide +kernel
theorem d_X0_gatherDown_60 : decode mi_X0_gatherDown.2.1 60 = .ok (.aaload, 1) := by decide +kernel
theorem d_X0_gatherDown_61 : decode mi_X0_gatherDown.2.1 61 = .ok (.getfield 52, 3) := by decide +kernel
theorem d_X0_gatherDown_64 : decode mi_X0_gatherDown.2.1 64 = .ok (.ifCond .le 12, 3) := by decide +kernel
theorem d_X0_gatherDown_67 : decode mi_X0_gatherDown.2.1 67 = .ok (.aload_n 0, 1) := by decide +kernel
theorem d_X0_gatherDown_68 : decode mi_X0_gatherDown.2.1 68 = .ok (.iload 5, 2) := by decide +kernel
theorem d_X0_gatherDown_70 : decode mi_X0_gatherDown.2.1 70 = .ok (.iload_n 2, 1) := by decide +kernel
theorem d_X0_gatherDown_71 : decode mi_X0_gatherDown.2.1 71 = .ok (.iconst 1, 1) := by decide +kernel
theorem d_X0_gatherDown_72 : decode mi_X0_gatherDown.2.1 72 = .ok (.iadd, 1) := by decide +kernel
theorem d_X0_gatherDown_73 : decode mi_X0_gatherDown.2.1 73 = .ok (.invokestatic 71, 3) := by decide +kernel
theorem d_X0_gatherDown_76 : decode mi_X0_gatherDown.2.1 76 = .ok (.iinc 4 1, 3) := by decide +kernel
theorem d_X0_gatherDown_79 : decode mi_X0_gatherDown.2.1 79 = .ok (.goto (-62), 3) := by decide +kernel
theorem d_X0_gatherDown_82 : decode mi_X0_gatherDown.2.1 82 = .ok (.return_, 1) := by decide +kernel
theorem cw_X0_71 : CT RX0 71 mi_X0_gatherDown 3 := by unfold CT; decide +kernel
theorem cw_X0_75 : CV RX0 75 mi_X0_gatherPiece 1 := by unfold CV; decide +kernel
def f_X0_gatherDown_76 (K17 : Int32 → Option Nat → Int32 → SS → Option (Unit × SS)) (G : Int32 → Int32 → SS → Option (Unit × SS)) (v2 : Int32) (v3 : Option Nat) (v4 : Int32) (σ : SS) : Option (Unit × SS) := lt_ (v4 + (1 : Int32)) (fun x1 => K17 v2 v3 x1 σ)
set_option maxRecDepth 20000 in
theorem t_X0_gatherDown_76 {d : Nat} {X : MX} {Y : MY} {b : Nat × Nat} {r : Unit} {σ' : SS} {K17 : Int32 → Option Nat → Int32 → SS → Option (Unit × SS)} {G : Int32 → Int32 → SS → Option (Unit × SS)} {v2 : Int32} {v3 : Option Nat} {v4 : Int32} (hK17 : ∀ (v2 : Int32) (v3 : Option Nat) (v4 : Int32) (σ : SS), K17 v2 v3 v4 σ = some (r, σ') → WM (d + 1) X Y b mi_X0_gatherDown 17 [some (vR 12 0), none, some (vI v2), some (vO 22 v3), some (vI v4), none] [] σ (none, σ')) (hG : ∀ {v1 : Int32} {v2 : Int32} {σ : SS} {r : Unit} {σ' : SS}, G v1 v2 σ = some (r, σ') → MM d (0, 0) mi_X0_gatherDown [vR 12 0, vI v1, vI v2] σ (none, σ')) {σ : SS} (h : f_X0_gatherDown_76 K17 G v2 v3 v4 σ = some (r, σ')) : WM (d + 1) X Y b mi_X0_gatherDown 76 [some (vR 12 0), none, some (vI v2), some (vO 22 v3), some (vI v4), none] [] σ (none, σ') := by
  rw [f_X0_gatherDown_76] at h
  refine l_iinc (pc' := 79) d_X0_gatherDown_76 rfl ci_1 rfl rfl rfl h (fun x1 h => ?_)
  refine r_goto (pc' := 17) d_X0_gatherDown_79 rfl ?_
  exact WM.drop [] rfl (hK17 _ _ _ _ h)
def f_X0_gatherDown_17 (G : Int32 → Int32 → SS → Option (Unit × SS)) : Nat → Int32 → Option Nat → Int32 → SS → Option (Unit × SS)
  | 0, _, _, _, _ => none
  | n + 1, v2, v3, v4, σ => Option.elim v3 none (fun i1 => if (σ.1 22 i1 2) ≤ v4 then (some ((), σ)) else (chk (inr v4 20) (lt_ (σ.1 23 i1 (ix v4)) (fun x2 => chk (inr v4 20) (if (σ.1 24 i1 (ix v4)) = 0 then (cal (f_X0_gatherPiece x2 σ) (fun _ s6 => f_X0_gatherDown_76 (f_X0_gatherDown_17 G n) G v2 (some i1) v4 s6)) else (chk (inr x2 12) (lt_ (if ix x2 < σ.2.2 then some (ix x2) else none) (fun q3 => Option.elim q3 none (fun i4 => if (σ.1 22 i4 3) ≤ 0 then (f_X0_gatherDown_76 (f_X0_gatherDown_17 G n) G v2 (some i1) v4 σ) else (cal (G x2 (v2 + (1 : Int32)) σ) (fun _ s5 => f_X0_gatherDown_76 (f_X0_gatherDown_17 G n) G v2 (some i1) v4 s5)))))))))))
set_option maxRecDepth 20000 in
theorem t_X0_gatherDown_17 {d : Nat} {X : MX} {Y : MY} {b : Nat × Nat} {r : Unit} {σ' : SS} {G : Int32 → Int32 → SS → Option (Unit × SS)} (hG : ∀ {v1 : Int32} {v2 : Int32} {σ : SS} {r : Unit} {σ' : SS}, G v1 v2 σ = some (r, σ') → MM d (0, 0) mi_X0_gatherDown [vR 12 0, vI v1, vI v2] σ (none, σ')) : ∀ (n : Nat) (v2 : Int32) (v3 : Option Nat) (v4 : Int32) (σ : SS), f_X0_gatherDown_17 G n v2 v3 v4 σ = some (r, σ') → WM (d + 1) X Y b mi_X0_gatherDown 17 [some (vR 12 0), none, some (vI v2), some (vO 22 v3), some (vI v4), none] [] σ (none, σ') := by
  intro n
  induction n with
  | zero => intro _ _ _ σ h; cases h
  | succ n ih =>
    intro v2 v3 v4 σ h
    rw [f_X0_gatherDown_17] at h
    refine r_iload (pc' := 19) d_X0_gatherDown_17 rfl rfl ?_
    refine r_aload_n (pc' := 20) d_X0_gatherDown_19 rfl rfl rfl ?_
    obtain ⟨i1, e, hn⟩ := elim_s h
    clear h; subst e; have h := hn; clear hn
    refine r_get (v := vI _) (pc' := 23) fl_X0_33 d_X0_gatherDown_20 rfl rfl (fun _ => trivial) rfl ?_
    refine r_icmp_ge (pcT := 82) (pc' := 26) d_X0_gatherDown_23 rfl rfl h (fun _ h => ?_) (fun _ h => ?_)
    · exact r_vret d_X0_gatherDown_82 rfl h
    · refine r_aload_n (pc' := 27) d_X0_gatherDown_26 rfl rfl rfl ?_
      refine r_get (v := vR 23 _) (pc' := 30) fl_X0_38 d_X0_gatherDown_27 rfl rfl (fun g => Or.inl ⟨rfl, g.2⟩) rfl ?_
      refine r_iload (pc' := 32) d_X0_gatherDown_30 rfl rfl ?_
      refine r_iaload (pc' := 33) d_X0_gatherDown_32 rfl (fun _ => rfl) rfl h (fun h => ?_)
      refine l_istore (pc' := 35) d_X0_gatherDown_33 rfl rfl rfl h (fun x2 h => ?_)
      refine r_aload_n (pc' := 36) d_X0_gatherDown_35 rfl rfl rfl ?_
      refine r_get (v := vR 24 _) (pc' := 39) fl_X0_34 d_X0_gatherDown_36 rfl rfl (fun g => Or.inl ⟨rfl, g.2⟩) rfl ?_
      refine r_iload (pc' := 41) d_X0_gatherDown_39 rfl rfl ?_
      refine r_baload (pc' := 42) d_X0_gatherDown_41 rfl (fun _ => rfl) rfl h (fun h => ?_)
      refine r_if_ne (pcT := 54) (pc' := 45) d_X0_gatherDown_42 rfl rfl h (fun _ h => ?_) (fun _ h => ?_)
      · refine r_aload_n (pc' := 46) d_X0_gatherDown_45 rfl rfl rfl ?_
        refine r_iload (pc' := 48) d_X0_gatherDown_46 rfl rfl ?_
        refine v1_v (mc := mi_X0_gatherPiece) (bc := (0, 0)) (b' := _) (pc' := 51) cw_X0_75 d_X0_gatherDown_48 rfl rfl rfl (Nat.zero_add _).symm (Nat.zero_add _).symm rfl h (fun _ _ e => t_X0_gatherPiece e) (fun _ s6 h => ?_)
        refine r_goto (pc' := 76) d_X0_gatherDown_51 rfl ?_
        exact WM.drop [5] rfl (t_X0_gatherDown_76 ih hG h)
      · refine r_aload_n (pc' := 55) d_X0_gatherDown_54 rfl rfl rfl ?_
        refine r_get (v := vR 13 _) (pc' := 58) fl_X0_13 d_X0_gatherDown_55 rfl rfl (fun g => Or.inl ⟨rfl, g.2⟩) rfl ?_
        refine r_iload (pc' := 60) d_X0_gatherDown_58 rfl rfl ?_
        refine l_rows (pc' := 61) d_X0_gatherDown_60 rfl h (fun q3 h => ?_)
        obtain ⟨i4, e, hn⟩ := elim_s h
        clear h; subst e; have h := hn; clear hn
        refine r_get (v := vI _) (pc' := 64) fl_X0_52 d_X0_gatherDown_61 rfl rfl (fun _ => trivial) rfl ?_
        refine r_if_le (pcT := 76) (pc' := 67) d_X0_gatherDown_64 rfl rfl h (fun _ h => ?_) (fun _ h => ?_)
        · exact WM.drop [5] rfl (t_X0_gatherDown_76 ih hG h)
        · refine r_aload_n (pc' := 68) d_X0_gatherDown_67 rfl rfl rfl ?_
          refine r_iload (pc' := 70) d_X0_gatherDown_68 rfl rfl ?_
          refine r_iload_n (pc' := 71) d_X0_gatherDown_70 rfl rfl rfl ?_
          refine r_iconst (pc' := 72) d_X0_gatherDown_71 ci_1 rfl ?_
          refine r_iadd (pc' := 73) d_X0_gatherDown_72 rfl ?_
          refine s3_v (mc := mi_X0_gatherDown) (bc := (0, 0)) (b' := _) (pc' := 76) cw_X0_71 d_X0_gatherDown_73 rfl (Nat.zero_add _).symm (Nat.zero_add _).symm rfl h (fun _ _ e => hG e) (fun _ s5 h => ?_)
          exact WM.drop [5] rfl (t_X0_gatherDown_76 ih hG h)
def f_X0_gatherDown : Nat → Int32 → Int32 → SS → Option (Unit × SS)
  | 0, _, _, _ => none
  | n + 1, v1, v2, σ => if v2 < (12 : Int32) then (chk (inr v1 12) (lt_ (if ix v1 < σ.2.2 then some (ix v1) else none) (fun q1 => f_X0_gatherDown_17 (f_X0_gatherDown n) FU v2 q1 (0 : Int32) σ))) else (some ((), σ))
set_option maxRecDepth 20000 in
theorem t_X0_gatherDown {d : Nat} : ∀ (n : Nat) {b : Nat × Nat} {v1 : Int32} {v2 : Int32} {σ : SS} {r : Unit} {σ' : SS}, f_X0_gatherDown n v1 v2 σ = some (r, σ') → MM (d + n) b mi_X0_gatherDown [vR 12 0, vI v1, vI v2] σ (none, σ') := by
  intro n
  induction n with
  | zero => intro b _ _ σ r σ' h; cases h
  | succ n ih =>
    intro b v1 v2 σ r σ' h
    refine MM.of (lv := [some (vR 12 0), some (vI v1), some (vI v2), none, none, none]) (by decide +kernel) rfl rfl (fun X Y => ?_)
    rw [f_X0_gatherDown] at h
    have hG := @ih (0, 0)
    refine r_iload_n (pc' := 1) d_X0_gatherDown_0 rfl rfl rfl ?_
    refine r_bipush (pc' := 3) d_X0_gatherDown_1 cb_12 rfl ?_
    refine r_icmp_lt (pcT := 7) (pc' := 6) d_X0_gatherDown_3 rfl rfl h (fun _ h => ?_) (fun _ h => ?_)
    · refine r_aload_n (pc' := 8) d_X0_gatherDown_7 rfl rfl rfl ?_
      refine r_get (v := vR 13 _) (pc' := 11) fl_X0_13 d_X0_gatherDown_8 rfl rfl (fun g => Or.inl ⟨rfl, g.2⟩) rfl ?_
      refine r_iload_n (pc' := 12) d_X0_gatherDown_11 rfl rfl rfl ?_
      refine l_rows (pc' := 13) d_X0_gatherDown_12 rfl h (fun q1 h => ?_)
      refine r_astore_n (pc' := 14) d_X0_gatherDown_13 rfl rfl rfl rfl ?_
      refine r_iconst (pc' := 15) d_X0_gatherDown_14 ci_0 rfl ?_
      refine r_istore (pc' := 17) d_X0_gatherDown_15 rfl rfl rfl ?_
      exact WM.drop [1] rfl (t_X0_gatherDown_17 hG _ _ _ _ _ h)
    · exact r_vret d_X0_gatherDown_6 rfl h
/-! OctagonYard$Assemblies.gather(I)V -/
def mi_X0_gather : MI := (yX0_gather, cX0_gather, 2, none)
theorem d_X0_gather_0 : decode mi_X0_gather.2.1 0 = .ok (.aload_n 0, 1) := by decide +kernel
theorem d_X0_gather_1 : decode mi_X0_gather.2.1 1 = .ok (.iconst 0, 1) := by decide +kernel
theorem d_X0_gather_2 : decode mi_X0_gather.2.1 2 = .ok (.putfield 68, 3) := by decide +kernel
theorem d_X0_gather_5 : decode mi_X0_gather.2.1 5 = .ok (.aload_n 0, 1) := by decide +kernel
theorem d_X0_gather_6 : decode mi_X0_gather.2.1 6 = .ok (.iload_n 1, 1) := by decide +kernel
theorem d_X0_gather_7 : decode mi_X0_gather.2.1 7 = .ok (.iconst 0, 1) := by decide +kernel
theorem d_X0_gather_8 : decode mi_X0_gather.2.1 8 = .ok (.invokestatic 71, 3) := by decide +kernel
theorem d_X0_gather_11 : decode mi_X0_gather.2.1 11 = .ok (.return_, 1) := by decide +kernel
def f_X0_gather (v1 : Int32) (σ : SS) : Option (Unit × SS) := lt_ (up σ 12 0 3 (0 : Int32)) (fun s1 => cal (f_X0_gatherDown 13 v1 (0 : Int32) s1) (fun _ s2 => some ((), s2)))
set_option maxRecDepth 20000 in
theorem t_X0_gather {d : Nat} {b : Nat × Nat} {v1 : Int32} {σ : SS} {r : Unit} {σ' : SS} (h : f_X0_gather v1 σ = some (r, σ')) : MM (d + 14) b mi_X0_gather [vR 12 0, vI v1] σ (none, σ') := by
  refine MM.of (lv := [some (vR 12 0), some (vI v1)]) (by decide +kernel) rfl rfl (fun X Y => ?_)
  rw [f_X0_gather] at h
  refine r_aload_n (pc' := 1) d_X0_gather_0 rfl rfl rfl ?_
  refine r_iconst (pc' := 2) d_X0_gather_1 ci_0 rfl ?_
  refine l_put (k := 3) (pc' := 5) fl_X0_68 fw_0_3 rfl rfl d_X0_gather_2 rfl (by decide) (by decide) rfl rfl h (fun s1 h => ?_)
  refine r_aload_n (pc' := 6) d_X0_gather_5 rfl rfl rfl ?_
  refine r_iload_n (pc' := 7) d_X0_gather_6 rfl rfl rfl ?_
  refine r_iconst (pc' := 8) d_X0_gather_7 ci_0 rfl ?_
  refine s3_v (mc := mi_X0_gatherDown) (bc := (0, 0)) (b' := _) (pc' := 11) cw_X0_71 d_X0_gather_8 rfl (Nat.zero_add _).symm (Nat.zero_add _).symm rfl h (fun _ _ e => t_X0_gatherDown 13 e) (fun _ s2 h => ?_)
  exact r_vret d_X0_gather_11 rfl h
/-! OctagonYard$Assemblies.gathered()J -/
def mi_X0_gathered : MI := (yX0_gathered, cX0_gathered, 4, (some .long))
theorem d_X0_gathered_0 : decode mi_X0_gathered.2.1 0 = .ok (.lconst 0, 1) := by decide +kernel
theorem d_X0_gathered_1 : decode mi_X0_gathered.2.1 1 = .ok (.lstore_n 1, 1) := by decide +kernel
theorem d_X0_gathered_2 : decode mi_X0_gathered.2.1 2 = .ok (.iconst 0, 1) := by decide +kernel
theorem d_X0_gathered_3 : decode mi_X0_gathered.2.1 3 = .ok (.istore_n 3, 1) := by decide +kernel
theorem d_X0_gathered_4 : decode mi_X0_gathered.2.1 4 = .ok (.iload_n 3, 1) := by decide +kernel
theorem d_X0_gathered_5 : decode mi_X0_gathered.2.1 5 = .ok (.aload_n 0, 1) := by decide +kernel
theorem d_X0_gathered_6 : decode mi_X0_gathered.2.1 6 = .ok (.getfield 68, 3) := by decide +kernel
theorem d_X0_gathered_9 : decode mi_X0_gathered.2.1 9 = .ok (.if_icmp .ge 20, 3) := by decide +kernel
theorem d_X0_gathered_12 : decode mi_X0_gathered.2.1 12 = .ok (.lload_n 1, 1) := by decide +kernel
theorem d_X0_gathered_13 : decode mi_X0_gathered.2.1 13 = .ok (.lconst 1, 1) := by decide +kernel
theorem d_X0_gathered_14 : decode mi_X0_gathered.2.1 14 = .ok (.aload_n 0, 1) := by decide +kernel
theorem d_X0_gathered_15 : decode mi_X0_gathered.2.1 15 = .ok (.getfield 17, 3) := by decide +kernel
theorem d_X0_gathered_18 : decode mi_X0_gathered.2.1 18 = .ok (.iload_n 3, 1) := by decide +kernel
theorem d_X0_gathered_19 : decode mi_X0_gathered.2.1 19 = .ok (.iaload, 1) := by decide +kernel
theorem d_X0_gathered_20 : decode mi_X0_gathered.2.1 20 = .ok (.lshl, 1) := by decide +kernel
theorem d_X0_gathered_21 : decode mi_X0_gathered.2.1 21 = .ok (.lor, 1) := by decide +kernel
theorem d_X0_gathered_22 : decode mi_X0_gathered.2.1 22 = .ok (.lstore_n 1, 1) := by decide +kernel
theorem d_X0_gathered_23 : decode mi_X0_gathered.2.1 23 = .ok (.iinc 3 1, 3) := by decide +kernel
theorem d_X0_gathered_26 : decode mi_X0_gathered.2.1 26 = .ok (.goto (-22), 3) := by decide +kernel
theorem d_X0_gathered_29 : decode mi_X0_gathered.2.1 29 = .ok (.lload_n 1, 1) := by decide +kernel
theorem d_X0_gathered_30 : decode mi_X0_gathered.2.1 30 = .ok (.lreturn, 1) := by decide +kernel
def f_X0_gathered_4 : Nat → Int64 → Int32 → SS → Option (Int64 × SS)
  | 0, _, _, _ => none
  | n + 1, v1, v3, σ => if (σ.1 12 0 3) ≤ v3 then (some (v1, σ)) else (chk (inr v3 500) (lt_ (v1 ||| ((1 : Int64) <<< (((σ.1 14 0 (ix v3))).toInt64 &&& 63))) (fun x1 => lt_ (v3 + (1 : Int32)) (fun x2 => f_X0_gathered_4 n x1 x2 σ))))
set_option maxRecDepth 20000 in
theorem t_X0_gathered_4 {d : Nat} {X : MX} {Y : MY} {b : Nat × Nat} {r : Int64} {σ' : SS} : ∀ (n : Nat) (v1 : Int64) (v3 : Int32) (σ : SS), f_X0_gathered_4 n v1 v3 σ = some (r, σ') → WM d X Y b mi_X0_gathered 4 [some (vR 12 0), some (vL v1), none, some (vI v3)] [] σ (some (vL r), σ') := by
  intro n
  induction n with
  | zero => intro _ _ σ h; cases h
  | succ n ih =>
    intro v1 v3 σ h
    rw [f_X0_gathered_4] at h
    refine r_iload_n (pc' := 5) d_X0_gathered_4 rfl rfl rfl ?_
    refine r_aload_n (pc' := 6) d_X0_gathered_5 rfl rfl rfl ?_
    refine r_get (v := vI _) (pc' := 9) fl_X0_68 d_X0_gathered_6 rfl rfl (fun _ => trivial) rfl ?_
    refine r_icmp_ge (pcT := 29) (pc' := 12) d_X0_gathered_9 rfl rfl h (fun _ h => ?_) (fun _ h => ?_)
    · refine r_lload_n (pc' := 30) d_X0_gathered_29 rfl rfl rfl ?_
      exact r_lret d_X0_gathered_30 rfl h
    · refine r_lload_n (pc' := 13) d_X0_gathered_12 rfl rfl rfl ?_
      refine r_lconst (pc' := 14) (x := 1) d_X0_gathered_13 rfl rfl ?_
      refine r_aload_n (pc' := 15) d_X0_gathered_14 rfl rfl rfl ?_
      refine r_get (v := vR 14 _) (pc' := 18) fl_X0_17 d_X0_gathered_15 rfl rfl (fun g => Or.inl ⟨rfl, g.2⟩) rfl ?_
      refine r_iload_n (pc' := 19) d_X0_gathered_18 rfl rfl rfl ?_
      refine r_iaload (pc' := 20) d_X0_gathered_19 rfl (fun _ => rfl) rfl h (fun h => ?_)
      refine r_lshl (pc' := 21) d_X0_gathered_20 rfl ?_
      refine r_lor (pc' := 22) d_X0_gathered_21 rfl ?_
      refine l_lstore_n (pc' := 23) d_X0_gathered_22 rfl rfl rfl rfl h (fun x1 h => ?_)
      refine l_iinc (pc' := 26) d_X0_gathered_23 rfl ci_1 rfl rfl rfl h (fun x2 h => ?_)
      refine r_goto (pc' := 4) d_X0_gathered_26 rfl ?_
      exact WM.drop [] rfl (ih _ _ _ h)
def f_X0_gathered (σ : SS) : Option (Int64 × SS) := f_X0_gathered_4 FU (0 : Int64) (0 : Int32) σ
set_option maxRecDepth 20000 in
theorem t_X0_gathered {d : Nat} {b : Nat × Nat} {σ : SS} {r : Int64} {σ' : SS} (h : f_X0_gathered σ = some (r, σ')) : MM d b mi_X0_gathered [vR 12 0] σ (some (vL r), σ') := by
  refine MM.of (lv := [some (vR 12 0), none, none, none]) (by decide +kernel) rfl rfl (fun X Y => ?_)
  rw [f_X0_gathered] at h
  refine r_lconst (pc' := 1) (x := 0) d_X0_gathered_0 rfl rfl ?_
  refine r_lstore_n (pc' := 2) d_X0_gathered_1 rfl rfl rfl rfl ?_
  refine r_iconst (pc' := 3) d_X0_gathered_2 ci_0 rfl ?_
  refine r_istore_n (pc' := 4) d_X0_gathered_3 rfl rfl rfl rfl ?_
  exact WM.drop [] rfl (t_X0_gathered_4 _ _ _ _ h)
