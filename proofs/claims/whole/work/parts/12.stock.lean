/-! OctagonYard$Piece.bulk()J -/
def mi_X4_bulk : MI := (yX4_bulk, cX4_bulk, 1, (some .long))
theorem d_X4_bulk_0 : decode mi_X4_bulk.2.1 0 = .ok (.aload_n 0, 1) := by decide +kernel
theorem d_X4_bulk_1 : decode mi_X4_bulk.2.1 1 = .ok (.getfield 12, 3) := by decide +kernel
theorem d_X4_bulk_4 : decode mi_X4_bulk.2.1 4 = .ok (.invokevirtual 18, 3) := by decide +kernel
theorem d_X4_bulk_7 : decode mi_X4_bulk.2.1 7 = .ok (.i2l, 1) := by decide +kernel
theorem d_X4_bulk_8 : decode mi_X4_bulk.2.1 8 = .ok (.aload_n 0, 1) := by decide +kernel
theorem d_X4_bulk_9 : decode mi_X4_bulk.2.1 9 = .ok (.getfield 22, 3) := by decide +kernel
theorem d_X4_bulk_12 : decode mi_X4_bulk.2.1 12 = .ok (.i2l, 1) := by decide +kernel
theorem d_X4_bulk_13 : decode mi_X4_bulk.2.1 13 = .ok (.lmul, 1) := by decide +kernel
theorem d_X4_bulk_14 : decode mi_X4_bulk.2.1 14 = .ok (.lreturn, 1) := by decide +kernel
theorem in_4 : ∀ w ∈ u_ws RX4 TX4 5, w ∈ mtbl := by decide +kernel
theorem fl_X4_12 : FL RX4 12 4 5 0 := ⟨RX4, TX4, rfl, by decide, rfl, by decide +kernel, in_4⟩
theorem fl_X4_22 : FL RX4 22 4 5 1 := ⟨RX4, TX4, rfl, by decide, rfl, by decide +kernel, in_4⟩
theorem cw_X4_18 : CV RX4 18 mi_X3_eightfold 0 := by unfold CV; decide +kernel
def f_X4_bulk (v0 : Nat) (σ : SS) : Option (Int64 × SS) := cal (f_X3_eightfold v0 σ) (fun x2 s1 => some (((Int32.toInt64 x2) * (Int32.toInt64 (s1.1 16 v0 1))), s1))
set_option maxRecDepth 20000 in
theorem t_X4_bulk {d : Nat} {b : Nat × Nat} {v0 : Nat} {σ : SS} {r : Int64} {σ' : SS} (h : f_X4_bulk v0 σ = some (r, σ')) : MM (d + 2) b mi_X4_bulk [vR 16 v0] σ (some (vL r), σ') := by
  refine MM.of (lv := [some (vR 16 v0)]) (by decide +kernel) rfl rfl (fun X Y => ?_)
  rw [f_X4_bulk] at h
  refine r_aload_n (pc' := 1) d_X4_bulk_0 rfl rfl rfl ?_
  refine r_get (v := vR 17 _) (pc' := 4) fl_X4_12 d_X4_bulk_1 rfl rfl (fun g => Or.inl ⟨rfl, g.2⟩) rfl ?_
  refine v0_i (mc := mi_X3_eightfold) (bc := (0, 0)) (b' := _) (pc' := 7) cw_X4_18 d_X4_bulk_4 rfl rfl rfl (Nat.zero_add _).symm (Nat.zero_add _).symm rfl h (fun _ _ e => t_X3_eightfold e) (fun x2 s1 h => ?_)
  refine r_i2l (pc' := 8) d_X4_bulk_7 rfl ?_
  refine r_aload_n (pc' := 9) d_X4_bulk_8 rfl rfl rfl ?_
  refine r_get (v := vI _) (pc' := 12) fl_X4_22 d_X4_bulk_9 rfl rfl (fun _ => trivial) rfl ?_
  refine r_i2l (pc' := 13) d_X4_bulk_12 rfl ?_
  refine r_lmul (pc' := 14) d_X4_bulk_13 rfl ?_
  exact r_lret d_X4_bulk_14 rfl h
/-! OctagonYard$Piece.cost()I -/
def mi_X4_cost : MI := (yX4_cost, cX4_cost, 2, (some .int))
theorem d_X4_cost_0 : decode mi_X4_cost.2.1 0 = .ok (.aload_n 0, 1) := by decide +kernel
theorem d_X4_cost_1 : decode mi_X4_cost.2.1 1 = .ok (.getfield 12, 3) := by decide +kernel
theorem d_X4_cost_4 : decode mi_X4_cost.2.1 4 = .ok (.invokevirtual 26, 3) := by decide +kernel
theorem d_X4_cost_7 : decode mi_X4_cost.2.1 7 = .ok (.invokestatic 29, 3) := by decide +kernel
theorem d_X4_cost_10 : decode mi_X4_cost.2.1 10 = .ok (.bipush 8, 2) := by decide +kernel
theorem d_X4_cost_12 : decode mi_X4_cost.2.1 12 = .ok (.if_icmp .ne 8, 3) := by decide +kernel
theorem d_X4_cost_15 : decode mi_X4_cost.2.1 15 = .ok (.bipush 10, 2) := by decide +kernel
theorem d_X4_cost_17 : decode mi_X4_cost.2.1 17 = .ok (.goto 4, 3) := by decide +kernel
theorem d_X4_cost_20 : decode mi_X4_cost.2.1 20 = .ok (.iconst 0, 1) := by decide +kernel
theorem d_X4_cost_21 : decode mi_X4_cost.2.1 21 = .ok (.istore_n 1, 1) := by decide +kernel
theorem d_X4_cost_22 : decode mi_X4_cost.2.1 22 = .ok (.iconst 3, 1) := by decide +kernel
theorem d_X4_cost_23 : decode mi_X4_cost.2.1 23 = .ok (.aload_n 0, 1) := by decide +kernel
theorem d_X4_cost_24 : decode mi_X4_cost.2.1 24 = .ok (.getfield 12, 3) := by decide +kernel
theorem d_X4_cost_27 : decode mi_X4_cost.2.1 27 = .ok (.getfield 33, 3) := by decide +kernel
theorem d_X4_cost_30 : decode mi_X4_cost.2.1 30 = .ok (.imul, 1) := by decide +kernel
theorem d_X4_cost_31 : decode mi_X4_cost.2.1 31 = .ok (.iconst 2, 1) := by decide +kernel
theorem d_X4_cost_32 : decode mi_X4_cost.2.1 32 = .ok (.aload_n 0, 1) := by decide +kernel
theorem d_X4_cost_33 : decode mi_X4_cost.2.1 33 = .ok (.getfield 12, 3) := by decide +kernel
theorem d_X4_cost_36 : decode mi_X4_cost.2.1 36 = .ok (.invokevirtual 36, 3) := by decide +kernel
theorem d_X4_cost_39 : decode mi_X4_cost.2.1 39 = .ok (.imul, 1) := by decide +kernel
theorem d_X4_cost_40 : decode mi_X4_cost.2.1 40 = .ok (.iadd, 1) := by decide +kernel
theorem d_X4_cost_41 : decode mi_X4_cost.2.1 41 = .ok (.aload_n 0, 1) := by decide +kernel
theorem d_X4_cost_42 : decode mi_X4_cost.2.1 42 = .ok (.getfield 22, 3) := by decide +kernel
theorem d_X4_cost_45 : decode mi_X4_cost.2.1 45 = .ok (.iadd, 1) := by decide +kernel
theorem d_X4_cost_46 : decode mi_X4_cost.2.1 46 = .ok (.iload_n 1, 1) := by decide +kernel
theorem d_X4_cost_47 : decode mi_X4_cost.2.1 47 = .ok (.iadd, 1) := by decide +kernel
theorem d_X4_cost_48 : decode mi_X4_cost.2.1 48 = .ok (.ireturn, 1) := by decide +kernel
theorem cb_10 : (Int8.ofInt (10)).toInt32 = 10 := by decide
theorem fl_X4_33 : FL RX4 33 3 5 4 := ⟨RX3, TX3, rfl, by decide, rfl, by decide +kernel, in_3⟩
theorem cw_X4_26 : CV RX4 26 mi_X3_kind 0 := by unfold CV; decide +kernel
theorem cw_X4_29 : CN RX4 29 "OctagonYard" mi_X7_familyOf 1 := by unfold CN; decide +kernel
theorem cw_X4_36 : CV RX4 36 mi_X3_slantedSides 0 := by unfold CV; decide +kernel
def f_X4_cost_21 (v0 : Nat) (u0 : Int32) (σ : SS) : Option (Int32 × SS) := cal (f_X3_slantedSides v0 σ) (fun x2 s1 => some ((((((3 : Int32) * (σ.1 17 v0 4)) + ((2 : Int32) * x2)) + (s1.1 16 v0 1)) + u0), s1))
set_option maxRecDepth 20000 in
theorem t_X4_cost_21 {d : Nat} {X : MX} {Y : MY} {b : Nat × Nat} {r : Int32} {σ' : SS} {v0 : Nat} {u0 : Int32} {σ : SS} (h : f_X4_cost_21 v0 u0 σ = some (r, σ')) : WM (d + 3) X Y b mi_X4_cost 21 [some (vR 16 v0), none] [vI u0] σ (some (vI r), σ') := by
  rw [f_X4_cost_21] at h
  refine r_istore_n (pc' := 22) d_X4_cost_21 rfl rfl rfl rfl ?_
  refine r_iconst (pc' := 23) d_X4_cost_22 ci_3 rfl ?_
  refine r_aload_n (pc' := 24) d_X4_cost_23 rfl rfl rfl ?_
  refine r_get (v := vR 17 _) (pc' := 27) fl_X4_12 d_X4_cost_24 rfl rfl (fun g => Or.inl ⟨rfl, g.2⟩) rfl ?_
  refine r_get (v := vI _) (pc' := 30) fl_X4_33 d_X4_cost_27 rfl rfl (fun _ => trivial) rfl ?_
  refine r_imul (pc' := 31) d_X4_cost_30 rfl ?_
  refine r_iconst (pc' := 32) d_X4_cost_31 ci_2 rfl ?_
  refine r_aload_n (pc' := 33) d_X4_cost_32 rfl rfl rfl ?_
  refine r_get (v := vR 17 _) (pc' := 36) fl_X4_12 d_X4_cost_33 rfl rfl (fun g => Or.inl ⟨rfl, g.2⟩) rfl ?_
  refine v0_i (mc := mi_X3_slantedSides) (bc := (0, 0)) (b' := _) (pc' := 39) cw_X4_36 d_X4_cost_36 rfl rfl rfl (Nat.zero_add _).symm (Nat.zero_add _).symm rfl h (fun _ _ e => t_X3_slantedSides e) (fun x2 s1 h => ?_)
  refine r_imul (pc' := 40) d_X4_cost_39 rfl ?_
  refine r_iadd (pc' := 41) d_X4_cost_40 rfl ?_
  refine r_aload_n (pc' := 42) d_X4_cost_41 rfl rfl rfl ?_
  refine r_get (v := vI _) (pc' := 45) fl_X4_22 d_X4_cost_42 rfl rfl (fun _ => trivial) rfl ?_
  refine r_iadd (pc' := 46) d_X4_cost_45 rfl ?_
  refine r_iload_n (pc' := 47) d_X4_cost_46 rfl rfl rfl ?_
  refine r_iadd (pc' := 48) d_X4_cost_47 rfl ?_
  exact r_iret d_X4_cost_48 rfl h
def f_X4_cost (v0 : Nat) (σ : SS) : Option (Int32 × SS) := cal (f_X3_kind v0 σ) (fun x2 s1 => cal (f_X7_familyOf x2 s1) (fun x4 s3 => if x4 = (8 : Int32) then (f_X4_cost_21 v0 (10 : Int32) s3) else (f_X4_cost_21 v0 (0 : Int32) s3)))
set_option maxRecDepth 20000 in
theorem t_X4_cost {d : Nat} {b : Nat × Nat} {v0 : Nat} {σ : SS} {r : Int32} {σ' : SS} (h : f_X4_cost v0 σ = some (r, σ')) : MM (d + 3) b mi_X4_cost [vR 16 v0] σ (some (vI r), σ') := by
  refine MM.of (lv := [some (vR 16 v0), none]) (by decide +kernel) rfl rfl (fun X Y => ?_)
  rw [f_X4_cost] at h
  refine r_aload_n (pc' := 1) d_X4_cost_0 rfl rfl rfl ?_
  refine r_get (v := vR 17 _) (pc' := 4) fl_X4_12 d_X4_cost_1 rfl rfl (fun g => Or.inl ⟨rfl, g.2⟩) rfl ?_
  refine v0_i (mc := mi_X3_kind) (bc := (0, 0)) (b' := _) (pc' := 7) cw_X4_26 d_X4_cost_4 rfl rfl rfl (Nat.zero_add _).symm (Nat.zero_add _).symm rfl h (fun _ _ e => t_X3_kind e) (fun x2 s1 h => ?_)
  refine n1_i (mc := mi_X7_familyOf) (bc := (0, 0)) (b' := _) (pc' := 10) cw_X4_29 d_X4_cost_7 rfl (Nat.zero_add _).symm (Nat.zero_add _).symm rfl h (fun _ _ e => t_X7_familyOf e) (fun x4 s3 h => ?_)
  refine r_bipush (pc' := 12) d_X4_cost_10 cb_8 rfl ?_
  refine r_icmp_ne (pcT := 20) (pc' := 15) d_X4_cost_12 rfl rfl h (fun _ h => ?_) (fun _ h => ?_)
  · refine r_bipush (pc' := 17) d_X4_cost_15 cb_10 rfl ?_
    refine r_goto (pc' := 21) d_X4_cost_17 rfl ?_
    exact WM.drop [] rfl (t_X4_cost_21 h)
  · refine r_iconst (pc' := 21) d_X4_cost_20 ci_0 rfl ?_
    exact WM.drop [] rfl (t_X4_cost_21 h)
/-! OctagonYard$Stock.isFull()Z -/
def mi_X6_isFull : MI := (yX6_isFull, cX6_isFull, 1, (some .boolean))
theorem d_X6_isFull_0 : decode mi_X6_isFull.2.1 0 = .ok (.aload_n 0, 1) := by decide +kernel
theorem d_X6_isFull_1 : decode mi_X6_isFull.2.1 1 = .ok (.getfield 17, 3) := by decide +kernel
theorem d_X6_isFull_4 : decode mi_X6_isFull.2.1 4 = .ok (.bipush 60, 2) := by decide +kernel
theorem d_X6_isFull_6 : decode mi_X6_isFull.2.1 6 = .ok (.if_icmp .lt 7, 3) := by decide +kernel
theorem d_X6_isFull_9 : decode mi_X6_isFull.2.1 9 = .ok (.iconst 1, 1) := by decide +kernel
theorem d_X6_isFull_10 : decode mi_X6_isFull.2.1 10 = .ok (.goto 4, 3) := by decide +kernel
theorem d_X6_isFull_13 : decode mi_X6_isFull.2.1 13 = .ok (.iconst 0, 1) := by decide +kernel
theorem d_X6_isFull_14 : decode mi_X6_isFull.2.1 14 = .ok (.ireturn, 1) := by decide +kernel
theorem cb_60 : (Int8.ofInt (60)).toInt32 = 60 := by decide
theorem in_6 : ∀ w ∈ u_ws RX6 TX6 3, w ∈ mtbl := by decide +kernel
theorem fl_X6_17 : FL RX6 17 6 3 1 := ⟨RX6, TX6, rfl, by decide, rfl, by decide +kernel, in_6⟩
def f_X6_isFull (σ : SS) : Option (Int32 × SS) := if (σ.1 1 0 1) < (60 : Int32) then (some ((0 : Int32), σ)) else (some ((1 : Int32), σ))
set_option maxRecDepth 20000 in
theorem t_X6_isFull {d : Nat} {b : Nat × Nat} {σ : SS} {r : Int32} {σ' : SS} (h : f_X6_isFull σ = some (r, σ')) : MM d b mi_X6_isFull [vR 1 0] σ (some (vI r), σ') := by
  refine MM.of (lv := [some (vR 1 0)]) (by decide +kernel) rfl rfl (fun X Y => ?_)
  rw [f_X6_isFull] at h
  refine r_aload_n (pc' := 1) d_X6_isFull_0 rfl rfl rfl ?_
  refine r_get (v := vI _) (pc' := 4) fl_X6_17 d_X6_isFull_1 rfl rfl (fun _ => trivial) rfl ?_
  refine r_bipush (pc' := 6) d_X6_isFull_4 cb_60 rfl ?_
  refine r_icmp_lt (pcT := 13) (pc' := 9) d_X6_isFull_6 rfl rfl h (fun _ h => ?_) (fun _ h => ?_)
  · refine r_iconst (pc' := 14) d_X6_isFull_13 ci_0 rfl ?_
    exact r_zret d_X6_isFull_14 rfl (Or.inl rfl) h
  · refine r_iconst (pc' := 10) d_X6_isFull_9 ci_1 rfl ?_
    refine r_goto (pc' := 14) d_X6_isFull_10 rfl ?_
    exact r_zret d_X6_isFull_14 rfl (Or.inr rfl) h
/-! OctagonYard$Stock.add(II)LOctagonYard$Piece; -/
def mi_X6_add : MI := (yX6_add, cX6_add, 4, (some (.object "OctagonYard$Piece")))
theorem d_X6_add_0 : decode mi_X6_add.2.1 0 = .ok (.aload_n 0, 1) := by decide +kernel
theorem d_X6_add_1 : decode mi_X6_add.2.1 1 = .ok (.getfield 13, 3) := by decide +kernel
theorem d_X6_add_4 : decode mi_X6_add.2.1 4 = .ok (.aload_n 0, 1) := by decide +kernel
theorem d_X6_add_5 : decode mi_X6_add.2.1 5 = .ok (.getfield 17, 3) := by decide +kernel
theorem d_X6_add_8 : decode mi_X6_add.2.1 8 = .ok (.aaload, 1) := by decide +kernel
theorem d_X6_add_9 : decode mi_X6_add.2.1 9 = .ok (.ifnonnull 19, 3) := by decide +kernel
theorem d_X6_add_12 : decode mi_X6_add.2.1 12 = .ok (.aload_n 0, 1) := by decide +kernel
theorem d_X6_add_13 : decode mi_X6_add.2.1 13 = .ok (.getfield 13, 3) := by decide +kernel
theorem d_X6_add_16 : decode mi_X6_add.2.1 16 = .ok (.aload_n 0, 1) := by decide +kernel
theorem d_X6_add_17 : decode mi_X6_add.2.1 17 = .ok (.getfield 17, 3) := by decide +kernel
theorem d_X6_add_20 : decode mi_X6_add.2.1 20 = .ok (.new 11, 3) := by decide +kernel
theorem d_X6_add_23 : decode mi_X6_add.2.1 23 = .ok (.dup, 1) := by decide +kernel
theorem d_X6_add_24 : decode mi_X6_add.2.1 24 = .ok (.invokespecial 21, 3) := by decide +kernel
theorem d_X6_add_27 : decode mi_X6_add.2.1 27 = .ok (.aastore, 1) := by decide +kernel
theorem d_X6_add_28 : decode mi_X6_add.2.1 28 = .ok (.aload_n 0, 1) := by decide +kernel
theorem d_X6_add_29 : decode mi_X6_add.2.1 29 = .ok (.getfield 13, 3) := by decide +kernel
theorem d_X6_add_32 : decode mi_X6_add.2.1 32 = .ok (.aload_n 0, 1) := by decide +kernel
theorem d_X6_add_33 : decode mi_X6_add.2.1 33 = .ok (.getfield 17, 3) := by decide +kernel
theorem d_X6_add_36 : decode mi_X6_add.2.1 36 = .ok (.aaload, 1) := by decide +kernel
theorem d_X6_add_37 : decode mi_X6_add.2.1 37 = .ok (.astore_n 3, 1) := by decide +kernel
theorem d_X6_add_38 : decode mi_X6_add.2.1 38 = .ok (.aload_n 3, 1) := by decide +kernel
theorem d_X6_add_39 : decode mi_X6_add.2.1 39 = .ok (.iload_n 1, 1) := by decide +kernel
theorem d_X6_add_40 : decode mi_X6_add.2.1 40 = .ok (.putfield 22, 3) := by decide +kernel
theorem d_X6_add_43 : decode mi_X6_add.2.1 43 = .ok (.aload_n 3, 1) := by decide +kernel
theorem d_X6_add_44 : decode mi_X6_add.2.1 44 = .ok (.iload_n 2, 1) := by decide +kernel
theorem d_X6_add_45 : decode mi_X6_add.2.1 45 = .ok (.putfield 25, 3) := by decide +kernel
theorem d_X6_add_48 : decode mi_X6_add.2.1 48 = .ok (.aload_n 3, 1) := by decide +kernel
theorem d_X6_add_49 : decode mi_X6_add.2.1 49 = .ok (.iconst 1, 1) := by decide +kernel
theorem d_X6_add_50 : decode mi_X6_add.2.1 50 = .ok (.putfield 28, 3) := by decide +kernel
theorem d_X6_add_53 : decode mi_X6_add.2.1 53 = .ok (.aload_n 0, 1) := by decide +kernel
theorem d_X6_add_54 : decode mi_X6_add.2.1 54 = .ok (.dup, 1) := by decide +kernel
theorem d_X6_add_55 : decode mi_X6_add.2.1 55 = .ok (.getfield 17, 3) := by decide +kernel
theorem d_X6_add_58 : decode mi_X6_add.2.1 58 = .ok (.iconst 1, 1) := by decide +kernel
theorem d_X6_add_59 : decode mi_X6_add.2.1 59 = .ok (.iadd, 1) := by decide +kernel
theorem d_X6_add_60 : decode mi_X6_add.2.1 60 = .ok (.putfield 17, 3) := by decide +kernel
theorem d_X6_add_63 : decode mi_X6_add.2.1 63 = .ok (.aload_n 3, 1) := by decide +kernel
theorem d_X6_add_64 : decode mi_X6_add.2.1 64 = .ok (.areturn, 1) := by decide +kernel
theorem fl_X6_13 : FL RX6 13 6 3 0 := ⟨RX6, TX6, rfl, by decide, rfl, by decide +kernel, in_6⟩
theorem fl_X6_22 : FL RX6 22 4 5 2 := ⟨RX4, TX4, rfl, by decide, rfl, by decide +kernel, in_4⟩
theorem fl_X6_25 : FL RX6 25 4 5 1 := ⟨RX4, TX4, rfl, by decide, rfl, by decide +kernel, in_4⟩
theorem fl_X6_28 : FL RX6 28 4 5 4 := ⟨RX4, TX4, rfl, by decide, rfl, by decide +kernel, in_4⟩
theorem fw_4_1 : FW 4 5 1 .int := ⟨RX4, TX4, tyX4, rfl, rfl, by decide +kernel, tyX4_ok, nmX4⟩
theorem fw_4_2 : FW 4 5 2 .int := ⟨RX4, TX4, tyX4, rfl, rfl, by decide +kernel, tyX4_ok, nmX4⟩
theorem fw_4_4 : FW 4 5 4 .boolean := ⟨RX4, TX4, tyX4, rfl, rfl, by decide +kernel, tyX4_ok, nmX4⟩
theorem fw_6_1 : FW 6 3 1 .int := ⟨RX6, TX6, tyX6, rfl, rfl, by decide +kernel, tyX6_ok, nmX6⟩
theorem cbn_X6_11 : CB RX6 11 4 5 [.null, .int 0, .int 0, .int 0, .int 0] := ⟨RX4, TX4, tyX4, rfl, by decide +kernel, by decide +kernel, by decide +kernel, inn_4, tyX4_ok, rfl, by decide +kernel⟩
theorem kn_X6_21 : KN RX6 21 "OctagonYard" mi_X4_init := by unfold KN; decide +kernel
def f_X6_add_28 (v1 : Int32) (v2 : Int32) (σ : SS) : Option (Option Nat × SS) := chk (inr (σ.1 1 0 1) 60) (lt_ (if ix (σ.1 1 0 1) < σ.2.1 then some (ix (σ.1 1 0 1)) else none) (fun q1 => Option.elim q1 none (fun i2 => lt_ (up σ 16 i2 2 v1) (fun s3 => lt_ (up s3 16 i2 1 v2) (fun s4 => lt_ (up s4 16 i2 4 (1 : Int32)) (fun s5 => lt_ (up s5 1 0 1 ((s5.1 1 0 1) + (1 : Int32))) (fun s6 => some ((some i2), s6))))))))
set_option maxRecDepth 20000 in
theorem t_X6_add_28 {d : Nat} {X : MX} {Y : MY} {b : Nat × Nat} {r : Option Nat} {σ' : SS} {v1 : Int32} {v2 : Int32} {σ : SS} (h : f_X6_add_28 v1 v2 σ = some (r, σ')) : WM (d + 3) X Y b mi_X6_add 28 [some (vR 1 0), some (vI v1), some (vI v2), none] [] σ (some (vO 16 r), σ') := by
  rw [f_X6_add_28] at h
  refine r_aload_n (pc' := 29) d_X6_add_28 rfl rfl rfl ?_
  refine r_get (v := vR 2 _) (pc' := 32) fl_X6_13 d_X6_add_29 rfl rfl (fun g => Or.inl ⟨rfl, g.2⟩) rfl ?_
  refine r_aload_n (pc' := 33) d_X6_add_32 rfl rfl rfl ?_
  refine r_get (v := vI _) (pc' := 36) fl_X6_17 d_X6_add_33 rfl rfl (fun _ => trivial) rfl ?_
  refine l_pieces (pc' := 37) d_X6_add_36 rfl h (fun q1 h => ?_)
  refine r_astore_n (pc' := 38) d_X6_add_37 rfl rfl rfl rfl ?_
  refine r_aload_n (pc' := 39) d_X6_add_38 rfl rfl rfl ?_
  refine r_iload_n (pc' := 40) d_X6_add_39 rfl rfl rfl ?_
  obtain ⟨i2, e, hn⟩ := elim_s h
  clear h; subst e; have h := hn; clear hn
  refine l_put (k := 2) (pc' := 43) fl_X6_22 fw_4_2 rfl rfl d_X6_add_40 rfl (by decide) (by decide) rfl rfl h (fun s3 h => ?_)
  refine r_aload_n (pc' := 44) d_X6_add_43 rfl rfl rfl ?_
  refine r_iload_n (pc' := 45) d_X6_add_44 rfl rfl rfl ?_
  refine l_put (k := 1) (pc' := 48) fl_X6_25 fw_4_1 rfl rfl d_X6_add_45 rfl (by decide) (by decide) rfl rfl h (fun s4 h => ?_)
  refine r_aload_n (pc' := 49) d_X6_add_48 rfl rfl rfl ?_
  refine r_iconst (pc' := 50) d_X6_add_49 ci_1 rfl ?_
  refine l_put (k := 4) (pc' := 53) fl_X6_28 fw_4_4 (narrow_z (Or.inr rfl)) (fits_z (Or.inr rfl)) d_X6_add_50 rfl (by decide) (by decide) rfl rfl h (fun s5 h => ?_)
  refine r_aload_n (pc' := 54) d_X6_add_53 rfl rfl rfl ?_
  refine r_dup (pc' := 55) d_X6_add_54 rfl rfl ?_
  refine r_get (v := vI _) (pc' := 58) fl_X6_17 d_X6_add_55 rfl rfl (fun _ => trivial) rfl ?_
  refine r_iconst (pc' := 59) d_X6_add_58 ci_1 rfl ?_
  refine r_iadd (pc' := 60) d_X6_add_59 rfl ?_
  refine l_put (k := 1) (pc' := 63) fl_X6_17 fw_6_1 rfl rfl d_X6_add_60 rfl (by decide) (by decide) rfl rfl h (fun s6 h => ?_)
  refine r_aload_n (pc' := 64) d_X6_add_63 rfl rfl rfl ?_
  exact r_aret (k := 16) (x := (some i2)) d_X6_add_64 rfl h
def f_X6_add (v1 : Int32) (v2 : Int32) (σ : SS) : Option (Option Nat × SS) := chk (inr (σ.1 1 0 1) 60) (lt_ (if ix (σ.1 1 0 1) < σ.2.1 then some (ix (σ.1 1 0 1)) else none) (fun q1 => Option.elim q1 (chk (ix (σ.1 1 0 1) = σ.2.1 ∧ inr (σ.1 1 0 1) 60) (lt_ (newP σ) (fun s3 => f_X6_add_28 v1 v2 s3))) (fun i2 => f_X6_add_28 v1 v2 σ)))
set_option maxRecDepth 20000 in
theorem t_X6_add {d : Nat} {v1 : Int32} {v2 : Int32} {σ : SS} {r : Option Nat} {σ' : SS} (h : f_X6_add v1 v2 σ = some (r, σ')) : MM (d + 3) (6, 42) mi_X6_add [vR 1 0, vI v1, vI v2] σ (some (vO 16 r), σ') := by
  refine MM.of (lv := [some (vR 1 0), some (vI v1), some (vI v2), none]) (by decide +kernel) rfl rfl (fun X Y => ?_)
  rw [f_X6_add] at h
  refine r_aload_n (pc' := 1) d_X6_add_0 rfl rfl rfl ?_
  refine r_get (v := vR 2 _) (pc' := 4) fl_X6_13 d_X6_add_1 rfl rfl (fun g => Or.inl ⟨rfl, g.2⟩) rfl ?_
  refine r_aload_n (pc' := 5) d_X6_add_4 rfl rfl rfl ?_
  refine r_get (v := vI _) (pc' := 8) fl_X6_17 d_X6_add_5 rfl rfl (fun _ => trivial) rfl ?_
  refine l_pieces (pc' := 9) d_X6_add_8 rfl h (fun q1 h => ?_)
  refine r_ifnonnull (pcT := 28) (pc' := 12) d_X6_add_9 rfl rfl h (fun e hn => ?_) (fun i2 e hn => ?_)
  · clear h; subst e; have h := hn; clear hn
    refine r_aload_n (pc' := 13) d_X6_add_12 rfl rfl rfl ?_
    refine r_get (v := vR 2 _) (pc' := 16) fl_X6_13 d_X6_add_13 rfl rfl (fun g => Or.inl ⟨rfl, g.2⟩) rfl ?_
    refine r_aload_n (pc' := 17) d_X6_add_16 rfl rfl rfl ?_
    refine r_get (v := vI _) (pc' := 20) fl_X6_17 d_X6_add_17 rfl rfl (fun _ => trivial) rfl ?_
    obtain ⟨⟨hj, hin⟩, h⟩ := chk_t h
    refine l_newP (pc' := 28) cbn_X6_11 kn_X6_21 d_X6_add_20 d_X6_add_23 d_X6_add_24 d_X6_add_27 hj hin rfl rfl ?_
    generalize newP σ = s3 at h ⊢
    rw [lt_] at h
    exact WM.drop [] rfl (t_X6_add_28 h)
  · clear h; subst e; have h := hn; clear hn
    exact WM.drop [] rfl (t_X6_add_28 h)
/-! OctagonYard$Stock.findEvenScrapped(I)LOctagonYard$Piece; -/
def mi_X6_findEvenScrapped : MI := (yX6_findEvenScrapped, cX6_findEvenScrapped, 2, (some (.object "OctagonYard$Piece")))
theorem d_X6_findEvenScrapped_0 : decode mi_X6_findEvenScrapped.2.1 0 = .ok (.iload_n 1, 1) := by decide +kernel
theorem d_X6_findEvenScrapped_1 : decode mi_X6_findEvenScrapped.2.1 1 = .ok (.iconst 0, 1) := by decide +kernel
theorem d_X6_findEvenScrapped_2 : decode mi_X6_findEvenScrapped.2.1 2 = .ok (.aload_n 0, 1) := by decide +kernel
theorem d_X6_findEvenScrapped_3 : decode mi_X6_findEvenScrapped.2.1 3 = .ok (.getfield 17, 3) := by decide +kernel
theorem d_X6_findEvenScrapped_6 : decode mi_X6_findEvenScrapped.2.1 6 = .ok (.iconst 1, 1) := by decide +kernel
theorem d_X6_findEvenScrapped_7 : decode mi_X6_findEvenScrapped.2.1 7 = .ok (.isub, 1) := by decide +kernel
theorem d_X6_findEvenScrapped_8 : decode mi_X6_findEvenScrapped.2.1 8 = .ok (.invokestatic 36, 3) := by decide +kernel
theorem d_X6_findEvenScrapped_11 : decode mi_X6_findEvenScrapped.2.1 11 = .ok (.ifCond .eq 12, 3) := by decide +kernel
theorem d_X6_findEvenScrapped_14 : decode mi_X6_findEvenScrapped.2.1 14 = .ok (.aload_n 0, 1) := by decide +kernel
theorem d_X6_findEvenScrapped_15 : decode mi_X6_findEvenScrapped.2.1 15 = .ok (.getfield 13, 3) := by decide +kernel
theorem d_X6_findEvenScrapped_18 : decode mi_X6_findEvenScrapped.2.1 18 = .ok (.iload_n 1, 1) := by decide +kernel
theorem d_X6_findEvenScrapped_19 : decode mi_X6_findEvenScrapped.2.1 19 = .ok (.aaload, 1) := by decide +kernel
theorem d_X6_findEvenScrapped_20 : decode mi_X6_findEvenScrapped.2.1 20 = .ok (.goto 4, 3) := by decide +kernel
theorem d_X6_findEvenScrapped_23 : decode mi_X6_findEvenScrapped.2.1 23 = .ok (.aconst_null, 1) := by decide +kernel
theorem d_X6_findEvenScrapped_24 : decode mi_X6_findEvenScrapped.2.1 24 = .ok (.areturn, 1) := by decide +kernel
theorem cw_X6_36 : CN RX6 36 "OctagonYard" mi_X7_isFrom 3 := by unfold CN; decide +kernel
def f_X6_findEvenScrapped (v1 : Int32) (σ : SS) : Option (Option Nat × SS) := cal (f_X7_isFrom v1 (0 : Int32) ((σ.1 1 0 1) - (1 : Int32)) σ) (fun x2 s1 => if x2 = 0 then (some (none, s1)) else (chk (inr v1 60) (lt_ (if ix v1 < s1.2.1 then some (ix v1) else none) (fun q3 => some (q3, s1)))))
set_option maxRecDepth 20000 in
theorem t_X6_findEvenScrapped {d : Nat} {b : Nat × Nat} {v1 : Int32} {σ : SS} {r : Option Nat} {σ' : SS} (h : f_X6_findEvenScrapped v1 σ = some (r, σ')) : MM (d + 1) b mi_X6_findEvenScrapped [vR 1 0, vI v1] σ (some (vO 16 r), σ') := by
  refine MM.of (lv := [some (vR 1 0), some (vI v1)]) (by decide +kernel) rfl rfl (fun X Y => ?_)
  rw [f_X6_findEvenScrapped] at h
  refine r_iload_n (pc' := 1) d_X6_findEvenScrapped_0 rfl rfl rfl ?_
  refine r_iconst (pc' := 2) d_X6_findEvenScrapped_1 ci_0 rfl ?_
  refine r_aload_n (pc' := 3) d_X6_findEvenScrapped_2 rfl rfl rfl ?_
  refine r_get (v := vI _) (pc' := 6) fl_X6_17 d_X6_findEvenScrapped_3 rfl rfl (fun _ => trivial) rfl ?_
  refine r_iconst (pc' := 7) d_X6_findEvenScrapped_6 ci_1 rfl ?_
  refine r_isub (pc' := 8) d_X6_findEvenScrapped_7 rfl ?_
  refine n3_i (mc := mi_X7_isFrom) (bc := (0, 0)) (b' := _) (pc' := 11) cw_X6_36 d_X6_findEvenScrapped_8 rfl (Nat.zero_add _).symm (Nat.zero_add _).symm rfl h (fun _ _ e => t_X7_isFrom e) (fun x2 s1 h => ?_)
  refine r_if_eq (pcT := 23) (pc' := 14) d_X6_findEvenScrapped_11 rfl rfl h (fun _ h => ?_) (fun _ h => ?_)
  · refine r_null (pc' := 24) d_X6_findEvenScrapped_23 rfl ?_
    exact r_aret (k := 16) (x := none) d_X6_findEvenScrapped_24 rfl h
  · refine r_aload_n (pc' := 15) d_X6_findEvenScrapped_14 rfl rfl rfl ?_
    refine r_get (v := vR 2 _) (pc' := 18) fl_X6_13 d_X6_findEvenScrapped_15 rfl rfl (fun g => Or.inl ⟨rfl, g.2⟩) rfl ?_
    refine r_iload_n (pc' := 19) d_X6_findEvenScrapped_18 rfl rfl rfl ?_
    refine l_pieces (pc' := 20) d_X6_findEvenScrapped_19 rfl h (fun q3 h => ?_)
    refine r_goto (pc' := 24) d_X6_findEvenScrapped_20 rfl ?_
    exact r_aret (k := 16) (x := _) d_X6_findEvenScrapped_24 rfl h
/-! OctagonYard$Stock.find(I)LOctagonYard$Piece; -/
def mi_X6_find : MI := (yX6_find, cX6_find, 3, (some (.object "OctagonYard$Piece")))
theorem d_X6_find_0 : decode mi_X6_find.2.1 0 = .ok (.aload_n 0, 1) := by decide +kernel
theorem d_X6_find_1 : decode mi_X6_find.2.1 1 = .ok (.iload_n 1, 1) := by decide +kernel
theorem d_X6_find_2 : decode mi_X6_find.2.1 2 = .ok (.invokevirtual 32, 3) := by decide +kernel
theorem d_X6_find_5 : decode mi_X6_find.2.1 5 = .ok (.astore_n 2, 1) := by decide +kernel
theorem d_X6_find_6 : decode mi_X6_find.2.1 6 = .ok (.aload_n 2, 1) := by decide +kernel
theorem d_X6_find_7 : decode mi_X6_find.2.1 7 = .ok (.ifnull 14, 3) := by decide +kernel
theorem d_X6_find_10 : decode mi_X6_find.2.1 10 = .ok (.aload_n 2, 1) := by decide +kernel
theorem d_X6_find_11 : decode mi_X6_find.2.1 11 = .ok (.getfield 28, 3) := by decide +kernel
theorem d_X6_find_14 : decode mi_X6_find.2.1 14 = .ok (.ifCond .eq 7, 3) := by decide +kernel
theorem d_X6_find_17 : decode mi_X6_find.2.1 17 = .ok (.aload_n 2, 1) := by decide +kernel
theorem d_X6_find_18 : decode mi_X6_find.2.1 18 = .ok (.goto 4, 3) := by decide +kernel
theorem d_X6_find_21 : decode mi_X6_find.2.1 21 = .ok (.aconst_null, 1) := by decide +kernel
theorem d_X6_find_22 : decode mi_X6_find.2.1 22 = .ok (.areturn, 1) := by decide +kernel
theorem cw_X6_32 : CV RX6 32 mi_X6_findEvenScrapped 1 := by unfold CV; decide +kernel
def f_X6_find (v1 : Int32) (σ : SS) : Option (Option Nat × SS) := cal (f_X6_findEvenScrapped v1 σ) (fun q2 s1 => Option.elim q2 (some (none, s1)) (fun i3 => if (s1.1 16 i3 4) = 0 then (some (none, s1)) else (some ((some i3), s1))))
set_option maxRecDepth 20000 in
theorem t_X6_find {d : Nat} {b : Nat × Nat} {v1 : Int32} {σ : SS} {r : Option Nat} {σ' : SS} (h : f_X6_find v1 σ = some (r, σ')) : MM (d + 2) b mi_X6_find [vR 1 0, vI v1] σ (some (vO 16 r), σ') := by
  refine MM.of (lv := [some (vR 1 0), some (vI v1), none]) (by decide +kernel) rfl rfl (fun X Y => ?_)
  rw [f_X6_find] at h
  refine r_aload_n (pc' := 1) d_X6_find_0 rfl rfl rfl ?_
  refine r_iload_n (pc' := 2) d_X6_find_1 rfl rfl rfl ?_
  refine v1_o (t := 16) (mc := mi_X6_findEvenScrapped) (bc := (0, 0)) (b' := _) (pc' := 5) cw_X6_32 d_X6_find_2 rfl rfl rfl (Nat.zero_add _).symm (Nat.zero_add _).symm rfl h (fun _ _ e => t_X6_findEvenScrapped e) (fun q2 s1 h => ?_)
  refine r_astore_n (pc' := 6) d_X6_find_5 rfl rfl rfl rfl ?_
  refine r_aload_n (pc' := 7) d_X6_find_6 rfl rfl rfl ?_
  refine r_ifnull (pcT := 21) (pc' := 10) d_X6_find_7 rfl rfl h (fun e hn => ?_) (fun i3 e hn => ?_)
  · clear h; subst e; have h := hn; clear hn
    refine r_null (pc' := 22) d_X6_find_21 rfl ?_
    exact r_aret (k := 16) (x := none) d_X6_find_22 rfl h
  · clear h; subst e; have h := hn; clear hn
    refine r_aload_n (pc' := 11) d_X6_find_10 rfl rfl rfl ?_
    refine r_get (v := vI _) (pc' := 14) fl_X6_28 d_X6_find_11 rfl rfl (fun _ => trivial) rfl ?_
    refine r_if_eq (pcT := 21) (pc' := 17) d_X6_find_14 rfl rfl h (fun _ h => ?_) (fun _ h => ?_)
    · refine r_null (pc' := 22) d_X6_find_21 rfl ?_
      exact r_aret (k := 16) (x := none) d_X6_find_22 rfl h
    · refine r_aload_n (pc' := 18) d_X6_find_17 rfl rfl rfl ?_
      refine r_goto (pc' := 22) d_X6_find_18 rfl ?_
      exact r_aret (k := 16) (x := (some i3)) d_X6_find_22 rfl h
/-! OctagonYard$Stock.cameAsBlock(I)Z -/
def mi_X6_cameAsBlock : MI := (yX6_cameAsBlock, cX6_cameAsBlock, 3, (some .boolean))
theorem d_X6_cameAsBlock_0 : decode mi_X6_cameAsBlock.2.1 0 = .ok (.aload_n 0, 1) := by decide +kernel
theorem d_X6_cameAsBlock_1 : decode mi_X6_cameAsBlock.2.1 1 = .ok (.iload_n 1, 1) := by decide +kernel
theorem d_X6_cameAsBlock_2 : decode mi_X6_cameAsBlock.2.1 2 = .ok (.invokevirtual 32, 3) := by decide +kernel
theorem d_X6_cameAsBlock_5 : decode mi_X6_cameAsBlock.2.1 5 = .ok (.astore_n 2, 1) := by decide +kernel
theorem d_X6_cameAsBlock_6 : decode mi_X6_cameAsBlock.2.1 6 = .ok (.aload_n 2, 1) := by decide +kernel
theorem d_X6_cameAsBlock_7 : decode mi_X6_cameAsBlock.2.1 7 = .ok (.ifnull 15, 3) := by decide +kernel
theorem d_X6_cameAsBlock_10 : decode mi_X6_cameAsBlock.2.1 10 = .ok (.aload_n 2, 1) := by decide +kernel
theorem d_X6_cameAsBlock_11 : decode mi_X6_cameAsBlock.2.1 11 = .ok (.getfield 22, 3) := by decide +kernel
theorem d_X6_cameAsBlock_14 : decode mi_X6_cameAsBlock.2.1 14 = .ok (.iload_n 1, 1) := by decide +kernel
theorem d_X6_cameAsBlock_15 : decode mi_X6_cameAsBlock.2.1 15 = .ok (.if_icmp .ne 7, 3) := by decide +kernel
theorem d_X6_cameAsBlock_18 : decode mi_X6_cameAsBlock.2.1 18 = .ok (.iconst 1, 1) := by decide +kernel
theorem d_X6_cameAsBlock_19 : decode mi_X6_cameAsBlock.2.1 19 = .ok (.goto 4, 3) := by decide +kernel
theorem d_X6_cameAsBlock_22 : decode mi_X6_cameAsBlock.2.1 22 = .ok (.iconst 0, 1) := by decide +kernel
theorem d_X6_cameAsBlock_23 : decode mi_X6_cameAsBlock.2.1 23 = .ok (.ireturn, 1) := by decide +kernel
def f_X6_cameAsBlock (v1 : Int32) (σ : SS) : Option (Int32 × SS) := cal (f_X6_findEvenScrapped v1 σ) (fun q2 s1 => Option.elim q2 (some ((0 : Int32), s1)) (fun i3 => if (s1.1 16 i3 2) = v1 then (some ((1 : Int32), s1)) else (some ((0 : Int32), s1))))
set_option maxRecDepth 20000 in
theorem t_X6_cameAsBlock {d : Nat} {b : Nat × Nat} {v1 : Int32} {σ : SS} {r : Int32} {σ' : SS} (h : f_X6_cameAsBlock v1 σ = some (r, σ')) : MM (d + 2) b mi_X6_cameAsBlock [vR 1 0, vI v1] σ (some (vI r), σ') := by
  refine MM.of (lv := [some (vR 1 0), some (vI v1), none]) (by decide +kernel) rfl rfl (fun X Y => ?_)
  rw [f_X6_cameAsBlock] at h
  refine r_aload_n (pc' := 1) d_X6_cameAsBlock_0 rfl rfl rfl ?_
  refine r_iload_n (pc' := 2) d_X6_cameAsBlock_1 rfl rfl rfl ?_
  refine v1_o (t := 16) (mc := mi_X6_findEvenScrapped) (bc := (0, 0)) (b' := _) (pc' := 5) cw_X6_32 d_X6_cameAsBlock_2 rfl rfl rfl (Nat.zero_add _).symm (Nat.zero_add _).symm rfl h (fun _ _ e => t_X6_findEvenScrapped e) (fun q2 s1 h => ?_)
  refine r_astore_n (pc' := 6) d_X6_cameAsBlock_5 rfl rfl rfl rfl ?_
  refine r_aload_n (pc' := 7) d_X6_cameAsBlock_6 rfl rfl rfl ?_
  refine r_ifnull (pcT := 22) (pc' := 10) d_X6_cameAsBlock_7 rfl rfl h (fun e hn => ?_) (fun i3 e hn => ?_)
  · clear h; subst e; have h := hn; clear hn
    refine r_iconst (pc' := 23) d_X6_cameAsBlock_22 ci_0 rfl ?_
    exact r_zret d_X6_cameAsBlock_23 rfl (Or.inl rfl) h
  · clear h; subst e; have h := hn; clear hn
    refine r_aload_n (pc' := 11) d_X6_cameAsBlock_10 rfl rfl rfl ?_
    refine r_get (v := vI _) (pc' := 14) fl_X6_22 d_X6_cameAsBlock_11 rfl rfl (fun _ => trivial) rfl ?_
    refine r_iload_n (pc' := 15) d_X6_cameAsBlock_14 rfl rfl rfl ?_
    refine r_icmp_ne (pcT := 22) (pc' := 18) d_X6_cameAsBlock_15 rfl rfl h (fun _ h => ?_) (fun _ h => ?_)
    · refine r_iconst (pc' := 19) d_X6_cameAsBlock_18 ci_1 rfl ?_
      refine r_goto (pc' := 23) d_X6_cameAsBlock_19 rfl ?_
      exact r_zret d_X6_cameAsBlock_23 rfl (Or.inr rfl) h
    · refine r_iconst (pc' := 23) d_X6_cameAsBlock_22 ci_0 rfl ?_
      exact r_zret d_X6_cameAsBlock_23 rfl (Or.inl rfl) h
/-! OctagonYard$Stock.takeBackLatest()V -/
def mi_X6_takeBackLatest : MI := (yX6_takeBackLatest, cX6_takeBackLatest, 1, none)
theorem d_X6_takeBackLatest_0 : decode mi_X6_takeBackLatest.2.1 0 = .ok (.aload_n 0, 1) := by decide +kernel
theorem d_X6_takeBackLatest_1 : decode mi_X6_takeBackLatest.2.1 1 = .ok (.getfield 17, 3) := by decide +kernel
theorem d_X6_takeBackLatest_4 : decode mi_X6_takeBackLatest.2.1 4 = .ok (.ifCond .le 36, 3) := by decide +kernel
theorem d_X6_takeBackLatest_7 : decode mi_X6_takeBackLatest.2.1 7 = .ok (.aload_n 0, 1) := by decide +kernel
theorem d_X6_takeBackLatest_8 : decode mi_X6_takeBackLatest.2.1 8 = .ok (.aload_n 0, 1) := by decide +kernel
theorem d_X6_takeBackLatest_9 : decode mi_X6_takeBackLatest.2.1 9 = .ok (.getfield 17, 3) := by decide +kernel
theorem d_X6_takeBackLatest_12 : decode mi_X6_takeBackLatest.2.1 12 = .ok (.iconst 1, 1) := by decide +kernel
theorem d_X6_takeBackLatest_13 : decode mi_X6_takeBackLatest.2.1 13 = .ok (.isub, 1) := by decide +kernel
theorem d_X6_takeBackLatest_14 : decode mi_X6_takeBackLatest.2.1 14 = .ok (.invokevirtual 40, 3) := by decide +kernel
theorem d_X6_takeBackLatest_17 : decode mi_X6_takeBackLatest.2.1 17 = .ok (.ifCond .eq 13, 3) := by decide +kernel
theorem d_X6_takeBackLatest_20 : decode mi_X6_takeBackLatest.2.1 20 = .ok (.aload_n 0, 1) := by decide +kernel
theorem d_X6_takeBackLatest_21 : decode mi_X6_takeBackLatest.2.1 21 = .ok (.dup, 1) := by decide +kernel
theorem d_X6_takeBackLatest_22 : decode mi_X6_takeBackLatest.2.1 22 = .ok (.getfield 44, 3) := by decide +kernel
theorem d_X6_takeBackLatest_25 : decode mi_X6_takeBackLatest.2.1 25 = .ok (.iconst 1, 1) := by decide +kernel
theorem d_X6_takeBackLatest_26 : decode mi_X6_takeBackLatest.2.1 26 = .ok (.isub, 1) := by decide +kernel
theorem d_X6_takeBackLatest_27 : decode mi_X6_takeBackLatest.2.1 27 = .ok (.putfield 44, 3) := by decide +kernel
theorem d_X6_takeBackLatest_30 : decode mi_X6_takeBackLatest.2.1 30 = .ok (.aload_n 0, 1) := by decide +kernel
theorem d_X6_takeBackLatest_31 : decode mi_X6_takeBackLatest.2.1 31 = .ok (.dup, 1) := by decide +kernel
theorem d_X6_takeBackLatest_32 : decode mi_X6_takeBackLatest.2.1 32 = .ok (.getfield 17, 3) := by decide +kernel
theorem d_X6_takeBackLatest_35 : decode mi_X6_takeBackLatest.2.1 35 = .ok (.iconst 1, 1) := by decide +kernel
theorem d_X6_takeBackLatest_36 : decode mi_X6_takeBackLatest.2.1 36 = .ok (.isub, 1) := by decide +kernel
theorem d_X6_takeBackLatest_37 : decode mi_X6_takeBackLatest.2.1 37 = .ok (.putfield 17, 3) := by decide +kernel
theorem d_X6_takeBackLatest_40 : decode mi_X6_takeBackLatest.2.1 40 = .ok (.return_, 1) := by decide +kernel
theorem fl_X6_44 : FL RX6 44 6 3 2 := ⟨RX6, TX6, rfl, by decide, rfl, by decide +kernel, in_6⟩
theorem fw_6_2 : FW 6 3 2 .int := ⟨RX6, TX6, tyX6, rfl, rfl, by decide +kernel, tyX6_ok, nmX6⟩
theorem cw_X6_40 : CV RX6 40 mi_X6_cameAsBlock 1 := by unfold CV; decide +kernel
def f_X6_takeBackLatest_30 (σ : SS) : Option (Unit × SS) := lt_ (up σ 1 0 1 ((σ.1 1 0 1) - (1 : Int32))) (fun s1 => some ((), s1))
set_option maxRecDepth 20000 in
theorem t_X6_takeBackLatest_30 {d : Nat} {X : MX} {Y : MY} {b : Nat × Nat} {r : Unit} {σ' : SS} {σ : SS} (h : f_X6_takeBackLatest_30 σ = some (r, σ')) : WM (d + 3) X Y b mi_X6_takeBackLatest 30 [some (vR 1 0)] [] σ (none, σ') := by
  rw [f_X6_takeBackLatest_30] at h
  refine r_aload_n (pc' := 31) d_X6_takeBackLatest_30 rfl rfl rfl ?_
  refine r_dup (pc' := 32) d_X6_takeBackLatest_31 rfl rfl ?_
  refine r_get (v := vI _) (pc' := 35) fl_X6_17 d_X6_takeBackLatest_32 rfl rfl (fun _ => trivial) rfl ?_
  refine r_iconst (pc' := 36) d_X6_takeBackLatest_35 ci_1 rfl ?_
  refine r_isub (pc' := 37) d_X6_takeBackLatest_36 rfl ?_
  refine l_put (k := 1) (pc' := 40) fl_X6_17 fw_6_1 rfl rfl d_X6_takeBackLatest_37 rfl (by decide) (by decide) rfl rfl h (fun s1 h => ?_)
  exact r_vret d_X6_takeBackLatest_40 rfl h
def f_X6_takeBackLatest (σ : SS) : Option (Unit × SS) := if (σ.1 1 0 1) ≤ 0 then (some ((), σ)) else (cal (f_X6_cameAsBlock ((σ.1 1 0 1) - (1 : Int32)) σ) (fun x2 s1 => if x2 = 0 then (f_X6_takeBackLatest_30  s1) else (lt_ (up s1 1 0 2 ((s1.1 1 0 2) - (1 : Int32))) (fun s3 => f_X6_takeBackLatest_30  s3))))
set_option maxRecDepth 20000 in
theorem t_X6_takeBackLatest {d : Nat} {b : Nat × Nat} {σ : SS} {r : Unit} {σ' : SS} (h : f_X6_takeBackLatest σ = some (r, σ')) : MM (d + 3) b mi_X6_takeBackLatest [vR 1 0] σ (none, σ') := by
  refine MM.of (lv := [some (vR 1 0)]) (by decide +kernel) rfl rfl (fun X Y => ?_)
  rw [f_X6_takeBackLatest] at h
  refine r_aload_n (pc' := 1) d_X6_takeBackLatest_0 rfl rfl rfl ?_
  refine r_get (v := vI _) (pc' := 4) fl_X6_17 d_X6_takeBackLatest_1 rfl rfl (fun _ => trivial) rfl ?_
  refine r_if_le (pcT := 40) (pc' := 7) d_X6_takeBackLatest_4 rfl rfl h (fun _ h => ?_) (fun _ h => ?_)
  · exact r_vret d_X6_takeBackLatest_40 rfl h
  · refine r_aload_n (pc' := 8) d_X6_takeBackLatest_7 rfl rfl rfl ?_
    refine r_aload_n (pc' := 9) d_X6_takeBackLatest_8 rfl rfl rfl ?_
    refine r_get (v := vI _) (pc' := 12) fl_X6_17 d_X6_takeBackLatest_9 rfl rfl (fun _ => trivial) rfl ?_
    refine r_iconst (pc' := 13) d_X6_takeBackLatest_12 ci_1 rfl ?_
    refine r_isub (pc' := 14) d_X6_takeBackLatest_13 rfl ?_
    refine v1_i (mc := mi_X6_cameAsBlock) (bc := (0, 0)) (b' := _) (pc' := 17) cw_X6_40 d_X6_takeBackLatest_14 rfl rfl rfl (Nat.zero_add _).symm (Nat.zero_add _).symm rfl h (fun _ _ e => t_X6_cameAsBlock e) (fun x2 s1 h => ?_)
    refine r_if_eq (pcT := 30) (pc' := 20) d_X6_takeBackLatest_17 rfl rfl h (fun _ h => ?_) (fun _ h => ?_)
    · exact WM.drop [] rfl (t_X6_takeBackLatest_30 h)
    · refine r_aload_n (pc' := 21) d_X6_takeBackLatest_20 rfl rfl rfl ?_
      refine r_dup (pc' := 22) d_X6_takeBackLatest_21 rfl rfl ?_
      refine r_get (v := vI _) (pc' := 25) fl_X6_44 d_X6_takeBackLatest_22 rfl rfl (fun _ => trivial) rfl ?_
      refine r_iconst (pc' := 26) d_X6_takeBackLatest_25 ci_1 rfl ?_
      refine r_isub (pc' := 27) d_X6_takeBackLatest_26 rfl ?_
      refine l_put (k := 2) (pc' := 30) fl_X6_44 fw_6_2 rfl rfl d_X6_takeBackLatest_27 rfl (by decide) (by decide) rfl rfl h (fun s3 h => ?_)
      exact WM.drop [] rfl (t_X6_takeBackLatest_30 h)
/-! OctagonYard$Stock.present()I -/
def mi_X6_present : MI := (yX6_present, cX6_present, 3, (some .int))
theorem d_X6_present_0 : decode mi_X6_present.2.1 0 = .ok (.iconst 0, 1) := by decide +kernel
theorem d_X6_present_1 : decode mi_X6_present.2.1 1 = .ok (.istore_n 1, 1) := by decide +kernel
theorem d_X6_present_2 : decode mi_X6_present.2.1 2 = .ok (.iconst 0, 1) := by decide +kernel
theorem d_X6_present_3 : decode mi_X6_present.2.1 3 = .ok (.istore_n 2, 1) := by decide +kernel
theorem d_X6_present_4 : decode mi_X6_present.2.1 4 = .ok (.iload_n 2, 1) := by decide +kernel
theorem d_X6_present_5 : decode mi_X6_present.2.1 5 = .ok (.aload_n 0, 1) := by decide +kernel
theorem d_X6_present_6 : decode mi_X6_present.2.1 6 = .ok (.getfield 17, 3) := by decide +kernel
theorem d_X6_present_9 : decode mi_X6_present.2.1 9 = .ok (.if_icmp .ge 20, 3) := by decide +kernel
theorem d_X6_present_12 : decode mi_X6_present.2.1 12 = .ok (.aload_n 0, 1) := by decide +kernel
theorem d_X6_present_13 : decode mi_X6_present.2.1 13 = .ok (.iload_n 2, 1) := by decide +kernel
theorem d_X6_present_14 : decode mi_X6_present.2.1 14 = .ok (.invokevirtual 47, 3) := by decide +kernel
theorem d_X6_present_17 : decode mi_X6_present.2.1 17 = .ok (.ifnull 6, 3) := by decide +kernel
theorem d_X6_present_20 : decode mi_X6_present.2.1 20 = .ok (.iinc 1 1, 3) := by decide +kernel
theorem d_X6_present_23 : decode mi_X6_present.2.1 23 = .ok (.iinc 2 1, 3) := by decide +kernel
theorem d_X6_present_26 : decode mi_X6_present.2.1 26 = .ok (.goto (-22), 3) := by decide +kernel
theorem d_X6_present_29 : decode mi_X6_present.2.1 29 = .ok (.iload_n 1, 1) := by decide +kernel
theorem d_X6_present_30 : decode mi_X6_present.2.1 30 = .ok (.ireturn, 1) := by decide +kernel
theorem cw_X6_47 : CV RX6 47 mi_X6_find 1 := by unfold CV; decide +kernel
def f_X6_present_23 (K4 : Int32 → Int32 → SS → Option (Int32 × SS)) (v1 : Int32) (v2 : Int32) (σ : SS) : Option (Int32 × SS) := lt_ (v2 + (1 : Int32)) (fun x1 => K4 v1 x1 σ)
set_option maxRecDepth 20000 in
theorem t_X6_present_23 {d : Nat} {X : MX} {Y : MY} {b : Nat × Nat} {r : Int32} {σ' : SS} {K4 : Int32 → Int32 → SS → Option (Int32 × SS)} {v1 : Int32} {v2 : Int32} (hK4 : ∀ (v1 : Int32) (v2 : Int32) (σ : SS), K4 v1 v2 σ = some (r, σ') → WM (d + 3) X Y b mi_X6_present 4 [some (vR 1 0), some (vI v1), some (vI v2)] [] σ (some (vI r), σ')) {σ : SS} (h : f_X6_present_23 K4 v1 v2 σ = some (r, σ')) : WM (d + 3) X Y b mi_X6_present 23 [some (vR 1 0), some (vI v1), some (vI v2)] [] σ (some (vI r), σ') := by
  rw [f_X6_present_23] at h
  refine l_iinc (pc' := 26) d_X6_present_23 rfl ci_1 rfl rfl rfl h (fun x1 h => ?_)
  refine r_goto (pc' := 4) d_X6_present_26 rfl ?_
  exact WM.drop [] rfl (hK4 _ _ _ h)
def f_X6_present_4 : Nat → Int32 → Int32 → SS → Option (Int32 × SS)
  | 0, _, _, _ => none
  | n + 1, v1, v2, σ => if (σ.1 1 0 1) ≤ v2 then (some (v1, σ)) else (cal (f_X6_find v2 σ) (fun q2 s1 => Option.elim q2 (f_X6_present_23 (f_X6_present_4 n) v1 v2 s1) (fun i3 => lt_ (v1 + (1 : Int32)) (fun x4 => f_X6_present_23 (f_X6_present_4 n) x4 v2 s1))))
set_option maxRecDepth 20000 in
theorem t_X6_present_4 {d : Nat} {X : MX} {Y : MY} {b : Nat × Nat} {r : Int32} {σ' : SS} : ∀ (n : Nat) (v1 : Int32) (v2 : Int32) (σ : SS), f_X6_present_4 n v1 v2 σ = some (r, σ') → WM (d + 3) X Y b mi_X6_present 4 [some (vR 1 0), some (vI v1), some (vI v2)] [] σ (some (vI r), σ') := by
  intro n
  induction n with
  | zero => intro _ _ σ h; cases h
  | succ n ih =>
    intro v1 v2 σ h
    rw [f_X6_present_4] at h
    refine r_iload_n (pc' := 5) d_X6_present_4 rfl rfl rfl ?_
    refine r_aload_n (pc' := 6) d_X6_present_5 rfl rfl rfl ?_
    refine r_get (v := vI _) (pc' := 9) fl_X6_17 d_X6_present_6 rfl rfl (fun _ => trivial) rfl ?_
    refine r_icmp_ge (pcT := 29) (pc' := 12) d_X6_present_9 rfl rfl h (fun _ h => ?_) (fun _ h => ?_)
    · refine r_iload_n (pc' := 30) d_X6_present_29 rfl rfl rfl ?_
      exact r_iret d_X6_present_30 rfl h
    · refine r_aload_n (pc' := 13) d_X6_present_12 rfl rfl rfl ?_
      refine r_iload_n (pc' := 14) d_X6_present_13 rfl rfl rfl ?_
      refine v1_o (t := 16) (mc := mi_X6_find) (bc := (0, 0)) (b' := _) (pc' := 17) cw_X6_47 d_X6_present_14 rfl rfl rfl (Nat.zero_add _).symm (Nat.zero_add _).symm rfl h (fun _ _ e => t_X6_find e) (fun q2 s1 h => ?_)
      refine r_ifnull (pcT := 23) (pc' := 20) d_X6_present_17 rfl rfl h (fun e hn => ?_) (fun i3 e hn => ?_)
      · clear h; subst e; have h := hn; clear hn
        exact WM.drop [] rfl (t_X6_present_23 ih h)
      · clear h; subst e; have h := hn; clear hn
        refine l_iinc (pc' := 23) d_X6_present_20 rfl ci_1 rfl rfl rfl h (fun x4 h => ?_)
        exact WM.drop [] rfl (t_X6_present_23 ih h)
def f_X6_present (σ : SS) : Option (Int32 × SS) := f_X6_present_4 FU (0 : Int32) (0 : Int32) σ
set_option maxRecDepth 20000 in
theorem t_X6_present {d : Nat} {b : Nat × Nat} {σ : SS} {r : Int32} {σ' : SS} (h : f_X6_present σ = some (r, σ')) : MM (d + 3) b mi_X6_present [vR 1 0] σ (some (vI r), σ') := by
  refine MM.of (lv := [some (vR 1 0), none, none]) (by decide +kernel) rfl rfl (fun X Y => ?_)
  rw [f_X6_present] at h
  refine r_iconst (pc' := 1) d_X6_present_0 ci_0 rfl ?_
  refine r_istore_n (pc' := 2) d_X6_present_1 rfl rfl rfl rfl ?_
  refine r_iconst (pc' := 3) d_X6_present_2 ci_0 rfl ?_
  refine r_istore_n (pc' := 4) d_X6_present_3 rfl rfl rfl rfl ?_
  exact WM.drop [] rfl (t_X6_present_4 _ _ _ _ h)
/-! OctagonYard$Stock.lostOf(I)I -/
def mi_X6_lostOf : MI := (yX6_lostOf, cX6_lostOf, 6, (some .int))
theorem d_X6_lostOf_0 : decode mi_X6_lostOf.2.1 0 = .ok (.aload_n 0, 1) := by decide +kernel
theorem d_X6_lostOf_1 : decode mi_X6_lostOf.2.1 1 = .ok (.iload_n 1, 1) := by decide +kernel
theorem d_X6_lostOf_2 : decode mi_X6_lostOf.2.1 2 = .ok (.invokevirtual 32, 3) := by decide +kernel
theorem d_X6_lostOf_5 : decode mi_X6_lostOf.2.1 5 = .ok (.astore_n 2, 1) := by decide +kernel
theorem d_X6_lostOf_6 : decode mi_X6_lostOf.2.1 6 = .ok (.aload_n 2, 1) := by decide +kernel
theorem d_X6_lostOf_7 : decode mi_X6_lostOf.2.1 7 = .ok (.ifnull 11, 3) := by decide +kernel
theorem d_X6_lostOf_10 : decode mi_X6_lostOf.2.1 10 = .ok (.aload_n 0, 1) := by decide +kernel
theorem d_X6_lostOf_11 : decode mi_X6_lostOf.2.1 11 = .ok (.iload_n 1, 1) := by decide +kernel
theorem d_X6_lostOf_12 : decode mi_X6_lostOf.2.1 12 = .ok (.invokevirtual 40, 3) := by decide +kernel
theorem d_X6_lostOf_15 : decode mi_X6_lostOf.2.1 15 = .ok (.ifCond .ne 5, 3) := by decide +kernel
theorem d_X6_lostOf_18 : decode mi_X6_lostOf.2.1 18 = .ok (.iconst (-1), 1) := by decide +kernel
theorem d_X6_lostOf_19 : decode mi_X6_lostOf.2.1 19 = .ok (.ireturn, 1) := by decide +kernel
theorem d_X6_lostOf_20 : decode mi_X6_lostOf.2.1 20 = .ok (.aload_n 2, 1) := by decide +kernel
theorem d_X6_lostOf_21 : decode mi_X6_lostOf.2.1 21 = .ok (.getfield 50, 3) := by decide +kernel
theorem d_X6_lostOf_24 : decode mi_X6_lostOf.2.1 24 = .ok (.istore_n 3, 1) := by decide +kernel
theorem d_X6_lostOf_25 : decode mi_X6_lostOf.2.1 25 = .ok (.iconst 0, 1) := by decide +kernel
theorem d_X6_lostOf_26 : decode mi_X6_lostOf.2.1 26 = .ok (.istore 4, 2) := by decide +kernel
theorem d_X6_lostOf_28 : decode mi_X6_lostOf.2.1 28 = .ok (.iload 4, 2) := by decide +kernel
theorem d_X6_lostOf_30 : decode mi_X6_lostOf.2.1 30 = .ok (.aload_n 0, 1) := by decide +kernel
theorem d_X6_lostOf_31 : decode mi_X6_lostOf.2.1 31 = .ok (.getfield 17, 3) := by decide +kernel
theorem d_X6_lostOf_34 : decode mi_X6_lostOf.2.1 34 = .ok (.if_icmp .ge 42, 3) := by decide +kernel
theorem d_X6_lostOf_37 : decode mi_X6_lostOf.2.1 37 = .ok (.aload_n 0, 1) := by decide +kernel
theorem d_X6_lostOf_38 : decode mi_X6_lostOf.2.1 38 = .ok (.iload 4, 2) := by decide +kernel
theorem d_X6_lostOf_40 : decode mi_X6_lostOf.2.1 40 = .ok (.invokevirtual 47, 3) := by decide +kernel
theorem d_X6_lostOf_43 : decode mi_X6_lostOf.2.1 43 = .ok (.astore 5, 2) := by decide +kernel
theorem d_X6_lostOf_45 : decode mi_X6_lostOf.2.1 45 = .ok (.aload 5, 2) := by decide +kernel
theorem d_X6_lostOf_47 : decode mi_X6_lostOf.2.1 47 = .ok (.ifnull 23, 3) := by decide +kernel
theorem d_X6_lostOf_50 : decode mi_X6_lostOf.2.1 50 = .ok (.aload 5, 2) := by decide +kernel
theorem d_X6_lostOf_52 : decode mi_X6_lostOf.2.1 52 = .ok (.getfield 22, 3) := by decide +kernel
theorem d_X6_lostOf_55 : decode mi_X6_lostOf.2.1 55 = .ok (.iload_n 1, 1) := by decide +kernel
theorem d_X6_lostOf_56 : decode mi_X6_lostOf.2.1 56 = .ok (.if_icmp .ne 14, 3) := by decide +kernel
theorem d_X6_lostOf_59 : decode mi_X6_lostOf.2.1 59 = .ok (.iload_n 3, 1) := by decide +kernel
theorem d_X6_lostOf_60 : decode mi_X6_lostOf.2.1 60 = .ok (.aload 5, 2) := by decide +kernel
theorem d_X6_lostOf_62 : decode mi_X6_lostOf.2.1 62 = .ok (.getfield 53, 3) := by decide +kernel
theorem d_X6_lostOf_65 : decode mi_X6_lostOf.2.1 65 = .ok (.invokevirtual 57, 3) := by decide +kernel
theorem d_X6_lostOf_68 : decode mi_X6_lostOf.2.1 68 = .ok (.isub, 1) := by decide +kernel
theorem d_X6_lostOf_69 : decode mi_X6_lostOf.2.1 69 = .ok (.istore_n 3, 1) := by decide +kernel
theorem d_X6_lostOf_70 : decode mi_X6_lostOf.2.1 70 = .ok (.iinc 4 1, 3) := by decide +kernel
theorem d_X6_lostOf_73 : decode mi_X6_lostOf.2.1 73 = .ok (.goto (-45), 3) := by decide +kernel
theorem d_X6_lostOf_76 : decode mi_X6_lostOf.2.1 76 = .ok (.iload_n 3, 1) := by decide +kernel
theorem d_X6_lostOf_77 : decode mi_X6_lostOf.2.1 77 = .ok (.ireturn, 1) := by decide +kernel
theorem ci_m1 : Int32.ofInt (-1) = -1 := by decide
theorem fl_X6_50 : FL RX6 50 4 5 3 := ⟨RX4, TX4, rfl, by decide, rfl, by decide +kernel, in_4⟩
theorem fl_X6_53 : FL RX6 53 4 5 0 := ⟨RX4, TX4, rfl, by decide, rfl, by decide +kernel, in_4⟩
theorem cw_X6_57 : CV RX6 57 mi_X3_eightfold 0 := by unfold CV; decide +kernel
def f_X6_lostOf_70 (K28 : Int32 → Int32 → Int32 → SS → Option (Int32 × SS)) (v1 : Int32) (v3 : Int32) (v4 : Int32) (σ : SS) : Option (Int32 × SS) := lt_ (v4 + (1 : Int32)) (fun x1 => K28 v1 v3 x1 σ)
set_option maxRecDepth 20000 in
theorem t_X6_lostOf_70 {d : Nat} {X : MX} {Y : MY} {b : Nat × Nat} {r : Int32} {σ' : SS} {K28 : Int32 → Int32 → Int32 → SS → Option (Int32 × SS)} {v1 : Int32} {v3 : Int32} {v4 : Int32} (hK28 : ∀ (v1 : Int32) (v3 : Int32) (v4 : Int32) (σ : SS), K28 v1 v3 v4 σ = some (r, σ') → WM (d + 3) X Y b mi_X6_lostOf 28 [some (vR 1 0), some (vI v1), none, some (vI v3), some (vI v4), none] [] σ (some (vI r), σ')) {σ : SS} (h : f_X6_lostOf_70 K28 v1 v3 v4 σ = some (r, σ')) : WM (d + 3) X Y b mi_X6_lostOf 70 [some (vR 1 0), some (vI v1), none, some (vI v3), some (vI v4), none] [] σ (some (vI r), σ') := by
  rw [f_X6_lostOf_70] at h
  refine l_iinc (pc' := 73) d_X6_lostOf_70 rfl ci_1 rfl rfl rfl h (fun x1 h => ?_)
  refine r_goto (pc' := 28) d_X6_lostOf_73 rfl ?_
  exact WM.drop [] rfl (hK28 _ _ _ _ h)
def f_X6_lostOf_28 : Nat → Int32 → Int32 → Int32 → SS → Option (Int32 × SS)
  | 0, _, _, _, _ => none
  | n + 1, v1, v3, v4, σ => if (σ.1 1 0 1) ≤ v4 then (some (v3, σ)) else (cal (f_X6_find v4 σ) (fun q2 s1 => Option.elim q2 (f_X6_lostOf_70 (f_X6_lostOf_28 n) v1 v3 v4 s1) (fun i3 => if (s1.1 16 i3 2) = v1 then (cal (f_X3_eightfold i3 s1) (fun x5 s4 => lt_ (v3 - x5) (fun x6 => f_X6_lostOf_70 (f_X6_lostOf_28 n) v1 x6 v4 s4))) else (f_X6_lostOf_70 (f_X6_lostOf_28 n) v1 v3 v4 s1))))
set_option maxRecDepth 20000 in
theorem t_X6_lostOf_28 {d : Nat} {X : MX} {Y : MY} {b : Nat × Nat} {r : Int32} {σ' : SS} : ∀ (n : Nat) (v1 : Int32) (v3 : Int32) (v4 : Int32) (σ : SS), f_X6_lostOf_28 n v1 v3 v4 σ = some (r, σ') → WM (d + 3) X Y b mi_X6_lostOf 28 [some (vR 1 0), some (vI v1), none, some (vI v3), some (vI v4), none] [] σ (some (vI r), σ') := by
  intro n
  induction n with
  | zero => intro _ _ _ σ h; cases h
  | succ n ih =>
    intro v1 v3 v4 σ h
    rw [f_X6_lostOf_28] at h
    refine r_iload (pc' := 30) d_X6_lostOf_28 rfl rfl ?_
    refine r_aload_n (pc' := 31) d_X6_lostOf_30 rfl rfl rfl ?_
    refine r_get (v := vI _) (pc' := 34) fl_X6_17 d_X6_lostOf_31 rfl rfl (fun _ => trivial) rfl ?_
    refine r_icmp_ge (pcT := 76) (pc' := 37) d_X6_lostOf_34 rfl rfl h (fun _ h => ?_) (fun _ h => ?_)
    · refine r_iload_n (pc' := 77) d_X6_lostOf_76 rfl rfl rfl ?_
      exact r_iret d_X6_lostOf_77 rfl h
    · refine r_aload_n (pc' := 38) d_X6_lostOf_37 rfl rfl rfl ?_
      refine r_iload (pc' := 40) d_X6_lostOf_38 rfl rfl ?_
      refine v1_o (t := 16) (mc := mi_X6_find) (bc := (0, 0)) (b' := _) (pc' := 43) cw_X6_47 d_X6_lostOf_40 rfl rfl rfl (Nat.zero_add _).symm (Nat.zero_add _).symm rfl h (fun _ _ e => t_X6_find e) (fun q2 s1 h => ?_)
      refine r_astore (pc' := 45) d_X6_lostOf_43 rfl rfl rfl ?_
      refine r_aload (pc' := 47) d_X6_lostOf_45 rfl rfl ?_
      refine r_ifnull (pcT := 70) (pc' := 50) d_X6_lostOf_47 rfl rfl h (fun e hn => ?_) (fun i3 e hn => ?_)
      · clear h; subst e; have h := hn; clear hn
        exact WM.drop [5] rfl (t_X6_lostOf_70 ih h)
      · clear h; subst e; have h := hn; clear hn
        refine r_aload (pc' := 52) d_X6_lostOf_50 rfl rfl ?_
        refine r_get (v := vI _) (pc' := 55) fl_X6_22 d_X6_lostOf_52 rfl rfl (fun _ => trivial) rfl ?_
        refine r_iload_n (pc' := 56) d_X6_lostOf_55 rfl rfl rfl ?_
        refine r_icmp_ne (pcT := 70) (pc' := 59) d_X6_lostOf_56 rfl rfl h (fun _ h => ?_) (fun _ h => ?_)
        · refine r_iload_n (pc' := 60) d_X6_lostOf_59 rfl rfl rfl ?_
          refine r_aload (pc' := 62) d_X6_lostOf_60 rfl rfl ?_
          refine r_get (v := vR 17 _) (pc' := 65) fl_X6_53 d_X6_lostOf_62 rfl rfl (fun g => Or.inl ⟨rfl, g.2⟩) rfl ?_
          refine v0_i (mc := mi_X3_eightfold) (bc := (0, 0)) (b' := _) (pc' := 68) cw_X6_57 d_X6_lostOf_65 rfl rfl rfl (Nat.zero_add _).symm (Nat.zero_add _).symm rfl h (fun _ _ e => t_X3_eightfold e) (fun x5 s4 h => ?_)
          refine r_isub (pc' := 69) d_X6_lostOf_68 rfl ?_
          refine l_istore_n (pc' := 70) d_X6_lostOf_69 rfl rfl rfl rfl h (fun x6 h => ?_)
          exact WM.drop [5] rfl (t_X6_lostOf_70 ih h)
        · exact WM.drop [5] rfl (t_X6_lostOf_70 ih h)
def f_X6_lostOf (v1 : Int32) (σ : SS) : Option (Int32 × SS) := cal (f_X6_findEvenScrapped v1 σ) (fun q2 s1 => Option.elim q2 (some ((-1 : Int32), s1)) (fun i3 => cal (f_X6_cameAsBlock v1 s1) (fun x5 s4 => if x5 = 0 then (some ((-1 : Int32), s4)) else (lt_ (s4.1 16 i3 3) (fun x6 => f_X6_lostOf_28 FU v1 x6 (0 : Int32) s4)))))
set_option maxRecDepth 20000 in
theorem t_X6_lostOf {d : Nat} {b : Nat × Nat} {v1 : Int32} {σ : SS} {r : Int32} {σ' : SS} (h : f_X6_lostOf v1 σ = some (r, σ')) : MM (d + 3) b mi_X6_lostOf [vR 1 0, vI v1] σ (some (vI r), σ') := by
  refine MM.of (lv := [some (vR 1 0), some (vI v1), none, none, none, none]) (by decide +kernel) rfl rfl (fun X Y => ?_)
  rw [f_X6_lostOf] at h
  refine r_aload_n (pc' := 1) d_X6_lostOf_0 rfl rfl rfl ?_
  refine r_iload_n (pc' := 2) d_X6_lostOf_1 rfl rfl rfl ?_
  refine v1_o (t := 16) (mc := mi_X6_findEvenScrapped) (bc := (0, 0)) (b' := _) (pc' := 5) cw_X6_32 d_X6_lostOf_2 rfl rfl rfl (Nat.zero_add _).symm (Nat.zero_add _).symm rfl h (fun _ _ e => t_X6_findEvenScrapped e) (fun q2 s1 h => ?_)
  refine r_astore_n (pc' := 6) d_X6_lostOf_5 rfl rfl rfl rfl ?_
  refine r_aload_n (pc' := 7) d_X6_lostOf_6 rfl rfl rfl ?_
  refine r_ifnull (pcT := 18) (pc' := 10) d_X6_lostOf_7 rfl rfl h (fun e hn => ?_) (fun i3 e hn => ?_)
  · clear h; subst e; have h := hn; clear hn
    refine r_iconst (pc' := 19) d_X6_lostOf_18 ci_m1 rfl ?_
    exact r_iret d_X6_lostOf_19 rfl h
  · clear h; subst e; have h := hn; clear hn
    refine r_aload_n (pc' := 11) d_X6_lostOf_10 rfl rfl rfl ?_
    refine r_iload_n (pc' := 12) d_X6_lostOf_11 rfl rfl rfl ?_
    refine v1_i (mc := mi_X6_cameAsBlock) (bc := (0, 0)) (b' := _) (pc' := 15) cw_X6_40 d_X6_lostOf_12 rfl rfl rfl (Nat.zero_add _).symm (Nat.zero_add _).symm rfl h (fun _ _ e => t_X6_cameAsBlock e) (fun x5 s4 h => ?_)
    refine r_if_ne (pcT := 20) (pc' := 18) d_X6_lostOf_15 rfl rfl h (fun _ h => ?_) (fun _ h => ?_)
    · refine r_iconst (pc' := 19) d_X6_lostOf_18 ci_m1 rfl ?_
      exact r_iret d_X6_lostOf_19 rfl h
    · refine r_aload_n (pc' := 21) d_X6_lostOf_20 rfl rfl rfl ?_
      refine r_get (v := vI _) (pc' := 24) fl_X6_50 d_X6_lostOf_21 rfl rfl (fun _ => trivial) rfl ?_
      refine l_istore_n (pc' := 25) d_X6_lostOf_24 rfl rfl rfl rfl h (fun x6 h => ?_)
      refine r_iconst (pc' := 26) d_X6_lostOf_25 ci_0 rfl ?_
      refine r_istore (pc' := 28) d_X6_lostOf_26 rfl rfl rfl ?_
      exact WM.drop [2] rfl (t_X6_lostOf_28 _ _ _ _ _ h)
/-! OctagonYard$Stock.rests(IJ)Z -/
def mi_X6_rests : MI := (yX6_rests, cX6_rests, 7, (some .boolean))
theorem d_X6_rests_0 : decode mi_X6_rests.2.1 0 = .ok (.aload_n 0, 1) := by decide +kernel
theorem d_X6_rests_1 : decode mi_X6_rests.2.1 1 = .ok (.iload_n 1, 1) := by decide +kernel
theorem d_X6_rests_2 : decode mi_X6_rests.2.1 2 = .ok (.invokevirtual 47, 3) := by decide +kernel
theorem d_X6_rests_5 : decode mi_X6_rests.2.1 5 = .ok (.astore 4, 2) := by decide +kernel
theorem d_X6_rests_7 : decode mi_X6_rests.2.1 7 = .ok (.aload 4, 2) := by decide +kernel
theorem d_X6_rests_9 : decode mi_X6_rests.2.1 9 = .ok (.ifnull 16, 3) := by decide +kernel
theorem d_X6_rests_12 : decode mi_X6_rests.2.1 12 = .ok (.aload 4, 2) := by decide +kernel
theorem d_X6_rests_14 : decode mi_X6_rests.2.1 14 = .ok (.getfield 53, 3) := by decide +kernel
theorem d_X6_rests_17 : decode mi_X6_rests.2.1 17 = .ok (.getfield 63, 3) := by decide +kernel
theorem d_X6_rests_20 : decode mi_X6_rests.2.1 20 = .ok (.iconst 5, 1) := by decide +kernel
theorem d_X6_rests_21 : decode mi_X6_rests.2.1 21 = .ok (.iaload, 1) := by decide +kernel
theorem d_X6_rests_22 : decode mi_X6_rests.2.1 22 = .ok (.ifCond .lt 5, 3) := by decide +kernel
theorem d_X6_rests_25 : decode mi_X6_rests.2.1 25 = .ok (.iconst 1, 1) := by decide +kernel
theorem d_X6_rests_26 : decode mi_X6_rests.2.1 26 = .ok (.ireturn, 1) := by decide +kernel
theorem d_X6_rests_27 : decode mi_X6_rests.2.1 27 = .ok (.iconst 0, 1) := by decide +kernel
theorem d_X6_rests_28 : decode mi_X6_rests.2.1 28 = .ok (.istore 5, 2) := by decide +kernel
theorem d_X6_rests_30 : decode mi_X6_rests.2.1 30 = .ok (.iload 5, 2) := by decide +kernel
theorem d_X6_rests_32 : decode mi_X6_rests.2.1 32 = .ok (.aload_n 0, 1) := by decide +kernel
theorem d_X6_rests_33 : decode mi_X6_rests.2.1 33 = .ok (.getfield 17, 3) := by decide +kernel
theorem d_X6_rests_36 : decode mi_X6_rests.2.1 36 = .ok (.if_icmp .ge 58, 3) := by decide +kernel
theorem d_X6_rests_39 : decode mi_X6_rests.2.1 39 = .ok (.aload_n 0, 1) := by decide +kernel
theorem d_X6_rests_40 : decode mi_X6_rests.2.1 40 = .ok (.iload 5, 2) := by decide +kernel
theorem d_X6_rests_42 : decode mi_X6_rests.2.1 42 = .ok (.invokevirtual 47, 3) := by decide +kernel
theorem d_X6_rests_45 : decode mi_X6_rests.2.1 45 = .ok (.astore 6, 2) := by decide +kernel
theorem d_X6_rests_47 : decode mi_X6_rests.2.1 47 = .ok (.aload 6, 2) := by decide +kernel
theorem d_X6_rests_49 : decode mi_X6_rests.2.1 49 = .ok (.ifnull 39, 3) := by decide +kernel
theorem d_X6_rests_52 : decode mi_X6_rests.2.1 52 = .ok (.iload 5, 2) := by decide +kernel
theorem d_X6_rests_54 : decode mi_X6_rests.2.1 54 = .ok (.iload_n 1, 1) := by decide +kernel
theorem d_X6_rests_55 : decode mi_X6_rests.2.1 55 = .ok (.if_icmp .eq 33, 3) := by decide +kernel
theorem d_X6_rests_58 : decode mi_X6_rests.2.1 58 = .ok (.lload_n 2, 1) := by decide +kernel
theorem d_X6_rests_59 : decode mi_X6_rests.2.1 59 = .ok (.iload 5, 2) := by decide +kernel
theorem d_X6_rests_61 : decode mi_X6_rests.2.1 61 = .ok (.lshr, 1) := by decide +kernel
theorem d_X6_rests_62 : decode mi_X6_rests.2.1 62 = .ok (.lconst 1, 1) := by decide +kernel
theorem d_X6_rests_63 : decode mi_X6_rests.2.1 63 = .ok (.land, 1) := by decide +kernel
theorem d_X6_rests_64 : decode mi_X6_rests.2.1 64 = .ok (.lconst 0, 1) := by decide +kernel
theorem d_X6_rests_65 : decode mi_X6_rests.2.1 65 = .ok (.lcmp, 1) := by decide +kernel
theorem d_X6_rests_66 : decode mi_X6_rests.2.1 66 = .ok (.ifCond .eq 22, 3) := by decide +kernel
theorem d_X6_rests_69 : decode mi_X6_rests.2.1 69 = .ok (.aload 4, 2) := by decide +kernel
theorem d_X6_rests_71 : decode mi_X6_rests.2.1 71 = .ok (.getfield 53, 3) := by decide +kernel
theorem d_X6_rests_74 : decode mi_X6_rests.2.1 74 = .ok (.iconst 5, 1) := by decide +kernel
theorem d_X6_rests_75 : decode mi_X6_rests.2.1 75 = .ok (.aload 6, 2) := by decide +kernel
theorem d_X6_rests_77 : decode mi_X6_rests.2.1 77 = .ok (.getfield 53, 3) := by decide +kernel
theorem d_X6_rests_80 : decode mi_X6_rests.2.1 80 = .ok (.invokevirtual 67, 3) := by decide +kernel
theorem d_X6_rests_83 : decode mi_X6_rests.2.1 83 = .ok (.ifCond .le 5, 3) := by decide +kernel
theorem d_X6_rests_86 : decode mi_X6_rests.2.1 86 = .ok (.iconst 1, 1) := by decide +kernel
theorem d_X6_rests_87 : decode mi_X6_rests.2.1 87 = .ok (.ireturn, 1) := by decide +kernel
theorem d_X6_rests_88 : decode mi_X6_rests.2.1 88 = .ok (.iinc 5 1, 3) := by decide +kernel
theorem d_X6_rests_91 : decode mi_X6_rests.2.1 91 = .ok (.goto (-61), 3) := by decide +kernel
theorem d_X6_rests_94 : decode mi_X6_rests.2.1 94 = .ok (.iconst 0, 1) := by decide +kernel
theorem d_X6_rests_95 : decode mi_X6_rests.2.1 95 = .ok (.ireturn, 1) := by decide +kernel
theorem fl_X6_63 : FL RX6 63 3 5 0 := ⟨RX3, TX3, rfl, by decide, rfl, by decide +kernel, in_3⟩
theorem cw_X6_67 : CV RX6 67 mi_X3_common 2 := by unfold CV; decide +kernel
def f_X6_rests_88 (K30 : Int32 → Int64 → Option Nat → Int32 → SS → Option (Int32 × SS)) (v1 : Int32) (v2 : Int64) (v4 : Option Nat) (v5 : Int32) (σ : SS) : Option (Int32 × SS) := lt_ (v5 + (1 : Int32)) (fun x1 => K30 v1 v2 v4 x1 σ)
set_option maxRecDepth 20000 in
theorem t_X6_rests_88 {d : Nat} {X : MX} {Y : MY} {b : Nat × Nat} {r : Int32} {σ' : SS} {K30 : Int32 → Int64 → Option Nat → Int32 → SS → Option (Int32 × SS)} {v1 : Int32} {v2 : Int64} {v4 : Option Nat} {v5 : Int32} (hK30 : ∀ (v1 : Int32) (v2 : Int64) (v4 : Option Nat) (v5 : Int32) (σ : SS), K30 v1 v2 v4 v5 σ = some (r, σ') → WM (d + 3) X Y b mi_X6_rests 30 [some (vR 1 0), some (vI v1), some (vL v2), none, some (vO 16 v4), some (vI v5), none] [] σ (some (vI r), σ')) {σ : SS} (h : f_X6_rests_88 K30 v1 v2 v4 v5 σ = some (r, σ')) : WM (d + 3) X Y b mi_X6_rests 88 [some (vR 1 0), some (vI v1), some (vL v2), none, some (vO 16 v4), some (vI v5), none] [] σ (some (vI r), σ') := by
  rw [f_X6_rests_88] at h
  refine l_iinc (pc' := 91) d_X6_rests_88 rfl ci_1 rfl rfl rfl h (fun x1 h => ?_)
  refine r_goto (pc' := 30) d_X6_rests_91 rfl ?_
  exact WM.drop [] rfl (hK30 _ _ _ _ _ h)
def f_X6_rests_30 : Nat → Int32 → Int64 → Option Nat → Int32 → SS → Option (Int32 × SS)
  | 0, _, _, _, _, _ => none
  | n + 1, v1, v2, v4, v5, σ => if (σ.1 1 0 1) ≤ v5 then (some ((0 : Int32), σ)) else (cal (f_X6_find v5 σ) (fun q2 s1 => Option.elim q2 (f_X6_rests_88 (f_X6_rests_30 n) v1 v2 v4 v5 s1) (fun i3 => if v5 = v1 then (f_X6_rests_88 (f_X6_rests_30 n) v1 v2 v4 v5 s1) else (if (lg_cmp ((v2 >>> ((v5).toInt64 &&& 63)) &&& (1 : Int64)) (0 : Int64)) = 0 then (f_X6_rests_88 (f_X6_rests_30 n) v1 v2 v4 v5 s1) else (Option.elim v4 none (fun i4 => cal (f_X3_common i4 (5 : Int32) i3 s1) (fun x6 s5 => if x6 ≤ 0 then (f_X6_rests_88 (f_X6_rests_30 n) v1 v2 (some i4) v5 s5) else (some ((1 : Int32), s5)))))))))
set_option maxRecDepth 20000 in
theorem t_X6_rests_30 {d : Nat} {X : MX} {Y : MY} {b : Nat × Nat} {r : Int32} {σ' : SS} : ∀ (n : Nat) (v1 : Int32) (v2 : Int64) (v4 : Option Nat) (v5 : Int32) (σ : SS), f_X6_rests_30 n v1 v2 v4 v5 σ = some (r, σ') → WM (d + 3) X Y b mi_X6_rests 30 [some (vR 1 0), some (vI v1), some (vL v2), none, some (vO 16 v4), some (vI v5), none] [] σ (some (vI r), σ') := by
  intro n
  induction n with
  | zero => intro _ _ _ _ σ h; cases h
  | succ n ih =>
    intro v1 v2 v4 v5 σ h
    rw [f_X6_rests_30] at h
    refine r_iload (pc' := 32) d_X6_rests_30 rfl rfl ?_
    refine r_aload_n (pc' := 33) d_X6_rests_32 rfl rfl rfl ?_
    refine r_get (v := vI _) (pc' := 36) fl_X6_17 d_X6_rests_33 rfl rfl (fun _ => trivial) rfl ?_
    refine r_icmp_ge (pcT := 94) (pc' := 39) d_X6_rests_36 rfl rfl h (fun _ h => ?_) (fun _ h => ?_)
    · refine r_iconst (pc' := 95) d_X6_rests_94 ci_0 rfl ?_
      exact r_zret d_X6_rests_95 rfl (Or.inl rfl) h
    · refine r_aload_n (pc' := 40) d_X6_rests_39 rfl rfl rfl ?_
      refine r_iload (pc' := 42) d_X6_rests_40 rfl rfl ?_
      refine v1_o (t := 16) (mc := mi_X6_find) (bc := (0, 0)) (b' := _) (pc' := 45) cw_X6_47 d_X6_rests_42 rfl rfl rfl (Nat.zero_add _).symm (Nat.zero_add _).symm rfl h (fun _ _ e => t_X6_find e) (fun q2 s1 h => ?_)
      refine r_astore (pc' := 47) d_X6_rests_45 rfl rfl rfl ?_
      refine r_aload (pc' := 49) d_X6_rests_47 rfl rfl ?_
      refine r_ifnull (pcT := 88) (pc' := 52) d_X6_rests_49 rfl rfl h (fun e hn => ?_) (fun i3 e hn => ?_)
      · clear h; subst e; have h := hn; clear hn
        exact WM.drop [6] rfl (t_X6_rests_88 ih h)
      · clear h; subst e; have h := hn; clear hn
        refine r_iload (pc' := 54) d_X6_rests_52 rfl rfl ?_
        refine r_iload_n (pc' := 55) d_X6_rests_54 rfl rfl rfl ?_
        refine r_icmp_eq (pcT := 88) (pc' := 58) d_X6_rests_55 rfl rfl h (fun _ h => ?_) (fun _ h => ?_)
        · exact WM.drop [6] rfl (t_X6_rests_88 ih h)
        · refine r_lload_n (pc' := 59) d_X6_rests_58 rfl rfl rfl ?_
          refine r_iload (pc' := 61) d_X6_rests_59 rfl rfl ?_
          refine r_lshr (pc' := 62) d_X6_rests_61 rfl ?_
          refine r_lconst (pc' := 63) (x := 1) d_X6_rests_62 rfl rfl ?_
          refine r_land (pc' := 64) d_X6_rests_63 rfl ?_
          refine r_lconst (pc' := 65) (x := 0) d_X6_rests_64 rfl rfl ?_
          refine r_lcmp (pc' := 66) d_X6_rests_65 rfl ?_
          refine r_if_eq (pcT := 88) (pc' := 69) d_X6_rests_66 rfl rfl h (fun _ h => ?_) (fun _ h => ?_)
          · exact WM.drop [6] rfl (t_X6_rests_88 ih h)
          · refine r_aload (pc' := 71) d_X6_rests_69 rfl rfl ?_
            obtain ⟨i4, e, hn⟩ := elim_s h
            clear h; subst e; have h := hn; clear hn
            refine r_get (v := vR 17 _) (pc' := 74) fl_X6_53 d_X6_rests_71 rfl rfl (fun g => Or.inl ⟨rfl, g.2⟩) rfl ?_
            refine r_iconst (pc' := 75) d_X6_rests_74 ci_5 rfl ?_
            refine r_aload (pc' := 77) d_X6_rests_75 rfl rfl ?_
            refine r_get (v := vR 17 _) (pc' := 80) fl_X6_53 d_X6_rests_77 rfl rfl (fun g => Or.inl ⟨rfl, g.2⟩) rfl ?_
            refine v2_i (mc := mi_X3_common) (bc := (0, 0)) (b' := _) (pc' := 83) cw_X6_67 d_X6_rests_80 rfl rfl rfl (Nat.zero_add _).symm (Nat.zero_add _).symm rfl h (fun _ _ e => t_X3_common e) (fun x6 s5 h => ?_)
            refine r_if_le (pcT := 88) (pc' := 86) d_X6_rests_83 rfl rfl h (fun _ h => ?_) (fun _ h => ?_)
            · exact WM.drop [6] rfl (t_X6_rests_88 ih h)
            · refine r_iconst (pc' := 87) d_X6_rests_86 ci_1 rfl ?_
              exact r_zret d_X6_rests_87 rfl (Or.inr rfl) h
def f_X6_rests (v1 : Int32) (v2 : Int64) (σ : SS) : Option (Int32 × SS) := cal (f_X6_find v1 σ) (fun q2 s1 => Option.elim q2 (some ((1 : Int32), s1)) (fun i3 => chk (inr (5 : Int32) 8) (if (s1.1 18 i3 (ix (5 : Int32))) < 0 then (f_X6_rests_30 FU v1 v2 (some i3) (0 : Int32) s1) else (some ((1 : Int32), s1)))))
set_option maxRecDepth 20000 in
theorem t_X6_rests {d : Nat} {b : Nat × Nat} {v1 : Int32} {v2 : Int64} {σ : SS} {r : Int32} {σ' : SS} (h : f_X6_rests v1 v2 σ = some (r, σ')) : MM (d + 3) b mi_X6_rests [vR 1 0, vI v1, vL v2] σ (some (vI r), σ') := by
  refine MM.of (lv := [some (vR 1 0), some (vI v1), some (vL v2), none, none, none, none]) (by decide +kernel) rfl rfl (fun X Y => ?_)
  rw [f_X6_rests] at h
  refine r_aload_n (pc' := 1) d_X6_rests_0 rfl rfl rfl ?_
  refine r_iload_n (pc' := 2) d_X6_rests_1 rfl rfl rfl ?_
  refine v1_o (t := 16) (mc := mi_X6_find) (bc := (0, 0)) (b' := _) (pc' := 5) cw_X6_47 d_X6_rests_2 rfl rfl rfl (Nat.zero_add _).symm (Nat.zero_add _).symm rfl h (fun _ _ e => t_X6_find e) (fun q2 s1 h => ?_)
  refine r_astore (pc' := 7) d_X6_rests_5 rfl rfl rfl ?_
  refine r_aload (pc' := 9) d_X6_rests_7 rfl rfl ?_
  refine r_ifnull (pcT := 25) (pc' := 12) d_X6_rests_9 rfl rfl h (fun e hn => ?_) (fun i3 e hn => ?_)
  · clear h; subst e; have h := hn; clear hn
    refine r_iconst (pc' := 26) d_X6_rests_25 ci_1 rfl ?_
    exact r_zret d_X6_rests_26 rfl (Or.inr rfl) h
  · clear h; subst e; have h := hn; clear hn
    refine r_aload (pc' := 14) d_X6_rests_12 rfl rfl ?_
    refine r_get (v := vR 17 _) (pc' := 17) fl_X6_53 d_X6_rests_14 rfl rfl (fun g => Or.inl ⟨rfl, g.2⟩) rfl ?_
    refine r_get (v := vR 18 _) (pc' := 20) fl_X6_63 d_X6_rests_17 rfl rfl (fun g => Or.inl ⟨rfl, g.2⟩) rfl ?_
    refine r_iconst (pc' := 21) d_X6_rests_20 ci_5 rfl ?_
    refine r_iaload (pc' := 22) d_X6_rests_21 rfl (fun _ => rfl) rfl h (fun h => ?_)
    refine r_if_lt (pcT := 27) (pc' := 25) d_X6_rests_22 rfl rfl h (fun _ h => ?_) (fun _ h => ?_)
    · refine r_iconst (pc' := 28) d_X6_rests_27 ci_0 rfl ?_
      refine r_istore (pc' := 30) d_X6_rests_28 rfl rfl rfl ?_
      exact WM.drop [] rfl (t_X6_rests_30 _ _ _ _ _ _ h)
    · refine r_iconst (pc' := 26) d_X6_rests_25 ci_1 rfl ?_
      exact r_zret d_X6_rests_26 rfl (Or.inr rfl) h
