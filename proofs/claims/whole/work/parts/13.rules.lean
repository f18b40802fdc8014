/-! OctagonYard$History.keep(ILOctagonYard$Octagon;I)V -/
def mi_X2_keep : MI := (yX2_keep, cX2_keep, 4, none)
theorem d_X2_keep_0 : decode mi_X2_keep.2.1 0 = .ok (.aload_n 0, 1) := by decide +kernel
theorem d_X2_keep_1 : decode mi_X2_keep.2.1 1 = .ok (.aload_n 0, 1) := by decide +kernel
theorem d_X2_keep_2 : decode mi_X2_keep.2.1 2 = .ok (.getfield 21, 3) := by decide +kernel
theorem d_X2_keep_5 : decode mi_X2_keep.2.1 5 = .ok (.iconst 1, 1) := by decide +kernel
theorem d_X2_keep_6 : decode mi_X2_keep.2.1 6 = .ok (.iadd, 1) := by decide +kernel
theorem d_X2_keep_7 : decode mi_X2_keep.2.1 7 = .ok (.bipush 8, 2) := by decide +kernel
theorem d_X2_keep_9 : decode mi_X2_keep.2.1 9 = .ok (.irem, 1) := by decide +kernel
theorem d_X2_keep_10 : decode mi_X2_keep.2.1 10 = .ok (.putfield 21, 3) := by decide +kernel
theorem d_X2_keep_13 : decode mi_X2_keep.2.1 13 = .ok (.aload_n 0, 1) := by decide +kernel
theorem d_X2_keep_14 : decode mi_X2_keep.2.1 14 = .ok (.aload_n 0, 1) := by decide +kernel
theorem d_X2_keep_15 : decode mi_X2_keep.2.1 15 = .ok (.getfield 25, 3) := by decide +kernel
theorem d_X2_keep_18 : decode mi_X2_keep.2.1 18 = .ok (.iconst 1, 1) := by decide +kernel
theorem d_X2_keep_19 : decode mi_X2_keep.2.1 19 = .ok (.iadd, 1) := by decide +kernel
theorem d_X2_keep_20 : decode mi_X2_keep.2.1 20 = .ok (.bipush 8, 2) := by decide +kernel
theorem d_X2_keep_22 : decode mi_X2_keep.2.1 22 = .ok (.invokestatic 28, 3) := by decide +kernel
theorem d_X2_keep_25 : decode mi_X2_keep.2.1 25 = .ok (.putfield 25, 3) := by decide +kernel
theorem d_X2_keep_28 : decode mi_X2_keep.2.1 28 = .ok (.aload_n 0, 1) := by decide +kernel
theorem d_X2_keep_29 : decode mi_X2_keep.2.1 29 = .ok (.getfield 11, 3) := by decide +kernel
theorem d_X2_keep_32 : decode mi_X2_keep.2.1 32 = .ok (.aload_n 0, 1) := by decide +kernel
theorem d_X2_keep_33 : decode mi_X2_keep.2.1 33 = .ok (.getfield 21, 3) := by decide +kernel
theorem d_X2_keep_36 : decode mi_X2_keep.2.1 36 = .ok (.iload_n 1, 1) := by decide +kernel
theorem d_X2_keep_37 : decode mi_X2_keep.2.1 37 = .ok (.iastore, 1) := by decide +kernel
theorem d_X2_keep_38 : decode mi_X2_keep.2.1 38 = .ok (.aload_n 0, 1) := by decide +kernel
theorem d_X2_keep_39 : decode mi_X2_keep.2.1 39 = .ok (.getfield 15, 3) := by decide +kernel
theorem d_X2_keep_42 : decode mi_X2_keep.2.1 42 = .ok (.aload_n 0, 1) := by decide +kernel
theorem d_X2_keep_43 : decode mi_X2_keep.2.1 43 = .ok (.getfield 21, 3) := by decide +kernel
theorem d_X2_keep_46 : decode mi_X2_keep.2.1 46 = .ok (.iload_n 3, 1) := by decide +kernel
theorem d_X2_keep_47 : decode mi_X2_keep.2.1 47 = .ok (.iastore, 1) := by decide +kernel
theorem d_X2_keep_48 : decode mi_X2_keep.2.1 48 = .ok (.aload_n 2, 1) := by decide +kernel
theorem d_X2_keep_49 : decode mi_X2_keep.2.1 49 = .ok (.ifnull 24, 3) := by decide +kernel
theorem d_X2_keep_52 : decode mi_X2_keep.2.1 52 = .ok (.aload_n 2, 1) := by decide +kernel
theorem d_X2_keep_53 : decode mi_X2_keep.2.1 53 = .ok (.getfield 34, 3) := by decide +kernel
theorem d_X2_keep_56 : decode mi_X2_keep.2.1 56 = .ok (.iconst 0, 1) := by decide +kernel
theorem d_X2_keep_57 : decode mi_X2_keep.2.1 57 = .ok (.aload_n 0, 1) := by decide +kernel
theorem d_X2_keep_58 : decode mi_X2_keep.2.1 58 = .ok (.getfield 18, 3) := by decide +kernel
theorem d_X2_keep_61 : decode mi_X2_keep.2.1 61 = .ok (.aload_n 0, 1) := by decide +kernel
theorem d_X2_keep_62 : decode mi_X2_keep.2.1 62 = .ok (.getfield 21, 3) := by decide +kernel
theorem d_X2_keep_65 : decode mi_X2_keep.2.1 65 = .ok (.bipush 8, 2) := by decide +kernel
theorem d_X2_keep_67 : decode mi_X2_keep.2.1 67 = .ok (.imul, 1) := by decide +kernel
theorem d_X2_keep_68 : decode mi_X2_keep.2.1 68 = .ok (.bipush 8, 2) := by decide +kernel
theorem d_X2_keep_70 : decode mi_X2_keep.2.1 70 = .ok (.invokestatic 37, 3) := by decide +kernel
theorem d_X2_keep_73 : decode mi_X2_keep.2.1 73 = .ok (.return_, 1) := by decide +kernel
theorem in_2 : ∀ w ∈ u_ws RX2 TX2 5, w ∈ mtbl := by decide +kernel
theorem fl_X2_11 : FL RX2 11 2 5 0 := ⟨RX2, TX2, rfl, by decide, rfl, by decide +kernel, in_2⟩
theorem fl_X2_15 : FL RX2 15 2 5 1 := ⟨RX2, TX2, rfl, by decide, rfl, by decide +kernel, in_2⟩
theorem fl_X2_18 : FL RX2 18 2 5 2 := ⟨RX2, TX2, rfl, by decide, rfl, by decide +kernel, in_2⟩
theorem fl_X2_21 : FL RX2 21 2 5 3 := ⟨RX2, TX2, rfl, by decide, rfl, by decide +kernel, in_2⟩
theorem fl_X2_25 : FL RX2 25 2 5 4 := ⟨RX2, TX2, rfl, by decide, rfl, by decide +kernel, in_2⟩
theorem fl_X2_34 : FL RX2 34 3 5 0 := ⟨RX3, TX3, rfl, by decide, rfl, by decide +kernel, in_3⟩
theorem fw_2_3 : FW 2 5 3 .int := ⟨RX2, TX2, tyX2, rfl, rfl, by decide +kernel, tyX2_ok, nmX2⟩
theorem fw_2_4 : FW 2 5 4 .int := ⟨RX2, TX2, tyX2, rfl, rfl, by decide +kernel, tyX2_ok, nmX2⟩
theorem cx_X2_28 : CX RX2 28 Lib.Math.min.name Lib.Math.min.code := by unfold CX; decide +kernel
theorem cy_X2_37 : CY RX2 37 := by unfold CY; decide +kernel
def f_X2_keep (v1 : Int32) (v2 : Option Nat) (v3 : Int32) (σ : SS) : Option (Unit × SS) := lt_ (up σ 3 0 3 (((σ.1 3 0 3) + (1 : Int32)) - ((σ.1 3 0 3) + (1 : Int32)) / (8 : Int32) * (8 : Int32))) (fun s1 => lt_ (up s1 3 0 4 (if (8 : Int32) < ((s1.1 3 0 4) + (1 : Int32)) then (8 : Int32) else ((s1.1 3 0 4) + (1 : Int32)))) (fun s2 => chk (inr (s2.1 3 0 3) 8) (lt_ (up s2 4 0 (ix (s2.1 3 0 3)) v1) (fun s3 => chk (inr (s3.1 3 0 3) 8) (lt_ (up s3 5 0 (ix (s3.1 3 0 3)) v3) (fun s4 => Option.elim v2 (some ((), s4)) (fun i5 => chk (¬ (0 : Int32) < 0 ∧ ¬ ((s4.1 3 0 3) * (8 : Int32)) < 0 ∧ ¬ (8 : Int32) < 0 ∧ ix (0 : Int32) + ix (8 : Int32) ≤ 8 ∧ ix ((s4.1 3 0 3) * (8 : Int32)) + ix (8 : Int32) ≤ 64) (lt_ (cpy s4 18 i5 (ix (0 : Int32)) 6 0 (ix ((s4.1 3 0 3) * (8 : Int32))) (ix (8 : Int32))) (fun s6 => some ((), s6))))))))))
set_option maxRecDepth 20000 in
theorem t_X2_keep {d : Nat} {b : Nat × Nat} {v1 : Int32} {v2 : Option Nat} {v3 : Int32} {σ : SS} {r : Unit} {σ' : SS} (h : f_X2_keep v1 v2 v3 σ = some (r, σ')) : MM (d + 1) b mi_X2_keep [vR 3 0, vI v1, vO 17 v2, vI v3] σ (none, σ') := by
  refine MM.of (lv := [some (vR 3 0), some (vI v1), some (vO 17 v2), some (vI v3)]) (by decide +kernel) rfl rfl (fun X Y => ?_)
  rw [f_X2_keep] at h
  refine r_aload_n (pc' := 1) d_X2_keep_0 rfl rfl rfl ?_
  refine r_aload_n (pc' := 2) d_X2_keep_1 rfl rfl rfl ?_
  refine r_get (v := vI _) (pc' := 5) fl_X2_21 d_X2_keep_2 rfl rfl (fun _ => trivial) rfl ?_
  refine r_iconst (pc' := 6) d_X2_keep_5 ci_1 rfl ?_
  refine r_iadd (pc' := 7) d_X2_keep_6 rfl ?_
  refine r_bipush (pc' := 9) d_X2_keep_7 cb_8 rfl ?_
  refine r_irem (pc' := 10) d_X2_keep_9 (by decide) rfl ?_
  refine l_put (k := 3) (pc' := 13) fl_X2_21 fw_2_3 rfl rfl d_X2_keep_10 rfl (by decide) (by decide) rfl rfl h (fun s1 h => ?_)
  refine r_aload_n (pc' := 14) d_X2_keep_13 rfl rfl rfl ?_
  refine r_aload_n (pc' := 15) d_X2_keep_14 rfl rfl rfl ?_
  refine r_get (v := vI _) (pc' := 18) fl_X2_25 d_X2_keep_15 rfl rfl (fun _ => trivial) rfl ?_
  refine r_iconst (pc' := 19) d_X2_keep_18 ci_1 rfl ?_
  refine r_iadd (pc' := 20) d_X2_keep_19 rfl ?_
  refine r_bipush (pc' := 22) d_X2_keep_20 cb_8 rfl ?_
  refine r_mmin (pc' := 25) cx_X2_28 d_X2_keep_22 rfl rfl ?_
  refine l_put (k := 4) (pc' := 28) fl_X2_25 fw_2_4 rfl rfl d_X2_keep_25 rfl (by decide) (by decide) rfl rfl h (fun s2 h => ?_)
  refine r_aload_n (pc' := 29) d_X2_keep_28 rfl rfl rfl ?_
  refine r_get (v := vR 4 _) (pc' := 32) fl_X2_11 d_X2_keep_29 rfl rfl (fun g => Or.inl ⟨rfl, g.2⟩) rfl ?_
  refine r_aload_n (pc' := 33) d_X2_keep_32 rfl rfl rfl ?_
  refine r_get (v := vI _) (pc' := 36) fl_X2_21 d_X2_keep_33 rfl rfl (fun _ => trivial) rfl ?_
  refine r_iload_n (pc' := 37) d_X2_keep_36 rfl rfl rfl ?_
  refine l_iastore (pc' := 38) d_X2_keep_37 rfl (fun _ => rfl) (by decide) (by decide) (fun _ => rfl) rfl h (fun s3 h => ?_)
  refine r_aload_n (pc' := 39) d_X2_keep_38 rfl rfl rfl ?_
  refine r_get (v := vR 5 _) (pc' := 42) fl_X2_15 d_X2_keep_39 rfl rfl (fun g => Or.inl ⟨rfl, g.2⟩) rfl ?_
  refine r_aload_n (pc' := 43) d_X2_keep_42 rfl rfl rfl ?_
  refine r_get (v := vI _) (pc' := 46) fl_X2_21 d_X2_keep_43 rfl rfl (fun _ => trivial) rfl ?_
  refine r_iload_n (pc' := 47) d_X2_keep_46 rfl rfl rfl ?_
  refine l_iastore (pc' := 48) d_X2_keep_47 rfl (fun _ => rfl) (by decide) (by decide) (fun _ => rfl) rfl h (fun s4 h => ?_)
  refine r_aload_n (pc' := 49) d_X2_keep_48 rfl rfl rfl ?_
  refine r_ifnull (pcT := 73) (pc' := 52) d_X2_keep_49 rfl rfl h (fun e hn => ?_) (fun i5 e hn => ?_)
  · clear h; subst e; have h := hn; clear hn
    exact r_vret d_X2_keep_73 rfl h
  · clear h; subst e; have h := hn; clear hn
    refine r_aload_n (pc' := 53) d_X2_keep_52 rfl rfl rfl ?_
    refine r_get (v := vR 18 _) (pc' := 56) fl_X2_34 d_X2_keep_53 rfl rfl (fun g => Or.inl ⟨rfl, g.2⟩) rfl ?_
    refine r_iconst (pc' := 57) d_X2_keep_56 ci_0 rfl ?_
    refine r_aload_n (pc' := 58) d_X2_keep_57 rfl rfl rfl ?_
    refine r_get (v := vR 6 _) (pc' := 61) fl_X2_18 d_X2_keep_58 rfl rfl (fun g => Or.inl ⟨rfl, g.2⟩) rfl ?_
    refine r_aload_n (pc' := 62) d_X2_keep_61 rfl rfl rfl ?_
    refine r_get (v := vI _) (pc' := 65) fl_X2_21 d_X2_keep_62 rfl rfl (fun _ => trivial) rfl ?_
    refine r_bipush (pc' := 67) d_X2_keep_65 cb_8 rfl ?_
    refine r_imul (pc' := 68) d_X2_keep_67 rfl ?_
    refine r_bipush (pc' := 70) d_X2_keep_68 cb_8 rfl ?_
    refine l_copy (pc' := 73) cy_X2_37 d_X2_keep_70 rfl rfl (fun _ _ => rfl) (fun _ _ => rfl) rfl rfl h (fun s6 h => ?_)
    exact r_vret d_X2_keep_73 rfl h
/-! OctagonYard$History.latestFresh()I -/
def mi_X2_latestFresh : MI := (yX2_latestFresh, cX2_latestFresh, 1, (some .int))
theorem d_X2_latestFresh_0 : decode mi_X2_latestFresh.2.1 0 = .ok (.aload_n 0, 1) := by decide +kernel
theorem d_X2_latestFresh_1 : decode mi_X2_latestFresh.2.1 1 = .ok (.getfield 15, 3) := by decide +kernel
theorem d_X2_latestFresh_4 : decode mi_X2_latestFresh.2.1 4 = .ok (.aload_n 0, 1) := by decide +kernel
theorem d_X2_latestFresh_5 : decode mi_X2_latestFresh.2.1 5 = .ok (.getfield 21, 3) := by decide +kernel
theorem d_X2_latestFresh_8 : decode mi_X2_latestFresh.2.1 8 = .ok (.iaload, 1) := by decide +kernel
theorem d_X2_latestFresh_9 : decode mi_X2_latestFresh.2.1 9 = .ok (.ireturn, 1) := by decide +kernel
def f_X2_latestFresh (σ : SS) : Option (Int32 × SS) := chk (inr (σ.1 3 0 3) 8) (some ((σ.1 5 0 (ix (σ.1 3 0 3))), σ))
set_option maxRecDepth 20000 in
theorem t_X2_latestFresh {d : Nat} {b : Nat × Nat} {σ : SS} {r : Int32} {σ' : SS} (h : f_X2_latestFresh σ = some (r, σ')) : MM d b mi_X2_latestFresh [vR 3 0] σ (some (vI r), σ') := by
  refine MM.of (lv := [some (vR 3 0)]) (by decide +kernel) rfl rfl (fun X Y => ?_)
  rw [f_X2_latestFresh] at h
  refine r_aload_n (pc' := 1) d_X2_latestFresh_0 rfl rfl rfl ?_
  refine r_get (v := vR 5 _) (pc' := 4) fl_X2_15 d_X2_latestFresh_1 rfl rfl (fun g => Or.inl ⟨rfl, g.2⟩) rfl ?_
  refine r_aload_n (pc' := 5) d_X2_latestFresh_4 rfl rfl rfl ?_
  refine r_get (v := vI _) (pc' := 8) fl_X2_21 d_X2_latestFresh_5 rfl rfl (fun _ => trivial) rfl ?_
  refine r_iaload (pc' := 9) d_X2_latestFresh_8 rfl (fun _ => rfl) rfl h (fun h => ?_)
  exact r_iret d_X2_latestFresh_9 rfl h
/-! OctagonYard$History.latestChanged()I -/
def mi_X2_latestChanged : MI := (yX2_latestChanged, cX2_latestChanged, 1, (some .int))
theorem d_X2_latestChanged_0 : decode mi_X2_latestChanged.2.1 0 = .ok (.aload_n 0, 1) := by decide +kernel
theorem d_X2_latestChanged_1 : decode mi_X2_latestChanged.2.1 1 = .ok (.getfield 11, 3) := by decide +kernel
theorem d_X2_latestChanged_4 : decode mi_X2_latestChanged.2.1 4 = .ok (.aload_n 0, 1) := by decide +kernel
theorem d_X2_latestChanged_5 : decode mi_X2_latestChanged.2.1 5 = .ok (.getfield 21, 3) := by decide +kernel
theorem d_X2_latestChanged_8 : decode mi_X2_latestChanged.2.1 8 = .ok (.iaload, 1) := by decide +kernel
theorem d_X2_latestChanged_9 : decode mi_X2_latestChanged.2.1 9 = .ok (.ireturn, 1) := by decide +kernel
def f_X2_latestChanged (σ : SS) : Option (Int32 × SS) := chk (inr (σ.1 3 0 3) 8) (some ((σ.1 4 0 (ix (σ.1 3 0 3))), σ))
set_option maxRecDepth 20000 in
theorem t_X2_latestChanged {d : Nat} {b : Nat × Nat} {σ : SS} {r : Int32} {σ' : SS} (h : f_X2_latestChanged σ = some (r, σ')) : MM d b mi_X2_latestChanged [vR 3 0] σ (some (vI r), σ') := by
  refine MM.of (lv := [some (vR 3 0)]) (by decide +kernel) rfl rfl (fun X Y => ?_)
  rw [f_X2_latestChanged] at h
  refine r_aload_n (pc' := 1) d_X2_latestChanged_0 rfl rfl rfl ?_
  refine r_get (v := vR 4 _) (pc' := 4) fl_X2_11 d_X2_latestChanged_1 rfl rfl (fun g => Or.inl ⟨rfl, g.2⟩) rfl ?_
  refine r_aload_n (pc' := 5) d_X2_latestChanged_4 rfl rfl rfl ?_
  refine r_get (v := vI _) (pc' := 8) fl_X2_21 d_X2_latestChanged_5 rfl rfl (fun _ => trivial) rfl ?_
  refine r_iaload (pc' := 9) d_X2_latestChanged_8 rfl (fun _ => rfl) rfl h (fun h => ?_)
  exact r_iret d_X2_latestChanged_9 rfl h
/-! OctagonYard$History.giveBack(LOctagonYard$Octagon;)V -/
def mi_X2_giveBack : MI := (yX2_giveBack, cX2_giveBack, 2, none)
theorem d_X2_giveBack_0 : decode mi_X2_giveBack.2.1 0 = .ok (.aload_n 1, 1) := by decide +kernel
theorem d_X2_giveBack_1 : decode mi_X2_giveBack.2.1 1 = .ok (.aload_n 0, 1) := by decide +kernel
theorem d_X2_giveBack_2 : decode mi_X2_giveBack.2.1 2 = .ok (.getfield 18, 3) := by decide +kernel
theorem d_X2_giveBack_5 : decode mi_X2_giveBack.2.1 5 = .ok (.aload_n 0, 1) := by decide +kernel
theorem d_X2_giveBack_6 : decode mi_X2_giveBack.2.1 6 = .ok (.getfield 21, 3) := by decide +kernel
theorem d_X2_giveBack_9 : decode mi_X2_giveBack.2.1 9 = .ok (.bipush 8, 2) := by decide +kernel
theorem d_X2_giveBack_11 : decode mi_X2_giveBack.2.1 11 = .ok (.imul, 1) := by decide +kernel
theorem d_X2_giveBack_12 : decode mi_X2_giveBack.2.1 12 = .ok (.invokevirtual 43, 3) := by decide +kernel
theorem d_X2_giveBack_15 : decode mi_X2_giveBack.2.1 15 = .ok (.return_, 1) := by decide +kernel
theorem cw_X2_43 : CV RX2 43 mi_X3_becomeReach 2 := by unfold CV; decide +kernel
def f_X2_giveBack (v1 : Nat) (σ : SS) : Option (Unit × SS) := cal (f_X3_becomeReach v1 ((σ.1 3 0 3) * (8 : Int32)) σ) (fun _ s1 => some ((), s1))
set_option maxRecDepth 20000 in
theorem t_X2_giveBack {d : Nat} {b : Nat × Nat} {v1 : Nat} {σ : SS} {r : Unit} {σ' : SS} (h : f_X2_giveBack v1 σ = some (r, σ')) : MM (d + 3) b mi_X2_giveBack [vR 3 0, vR 17 v1] σ (none, σ') := by
  refine MM.of (lv := [some (vR 3 0), some (vR 17 v1)]) (by decide +kernel) rfl rfl (fun X Y => ?_)
  rw [f_X2_giveBack] at h
  refine r_aload_n (pc' := 1) d_X2_giveBack_0 rfl rfl rfl ?_
  refine r_aload_n (pc' := 2) d_X2_giveBack_1 rfl rfl rfl ?_
  refine r_get (v := vR 6 _) (pc' := 5) fl_X2_18 d_X2_giveBack_2 rfl rfl (fun g => Or.inl ⟨rfl, g.2⟩) rfl ?_
  refine r_aload_n (pc' := 6) d_X2_giveBack_5 rfl rfl rfl ?_
  refine r_get (v := vI _) (pc' := 9) fl_X2_21 d_X2_giveBack_6 rfl rfl (fun _ => trivial) rfl ?_
  refine r_bipush (pc' := 11) d_X2_giveBack_9 cb_8 rfl ?_
  refine r_imul (pc' := 12) d_X2_giveBack_11 rfl ?_
  refine v2_v (mc := mi_X3_becomeReach) (bc := (0, 0)) (b' := _) (pc' := 15) cw_X2_43 d_X2_giveBack_12 rfl rfl rfl (Nat.zero_add _).symm (Nat.zero_add _).symm rfl h (fun _ _ e => t_X3_becomeReach e) (fun _ s1 h => ?_)
  exact r_vret d_X2_giveBack_15 rfl h
/-! OctagonYard$History.dropLatest()V -/
def mi_X2_dropLatest : MI := (yX2_dropLatest, cX2_dropLatest, 1, none)
theorem d_X2_dropLatest_0 : decode mi_X2_dropLatest.2.1 0 = .ok (.aload_n 0, 1) := by decide +kernel
theorem d_X2_dropLatest_1 : decode mi_X2_dropLatest.2.1 1 = .ok (.aload_n 0, 1) := by decide +kernel
theorem d_X2_dropLatest_2 : decode mi_X2_dropLatest.2.1 2 = .ok (.getfield 21, 3) := by decide +kernel
theorem d_X2_dropLatest_5 : decode mi_X2_dropLatest.2.1 5 = .ok (.bipush 8, 2) := by decide +kernel
theorem d_X2_dropLatest_7 : decode mi_X2_dropLatest.2.1 7 = .ok (.iadd, 1) := by decide +kernel
theorem d_X2_dropLatest_8 : decode mi_X2_dropLatest.2.1 8 = .ok (.iconst 1, 1) := by decide +kernel
theorem d_X2_dropLatest_9 : decode mi_X2_dropLatest.2.1 9 = .ok (.isub, 1) := by decide +kernel
theorem d_X2_dropLatest_10 : decode mi_X2_dropLatest.2.1 10 = .ok (.bipush 8, 2) := by decide +kernel
theorem d_X2_dropLatest_12 : decode mi_X2_dropLatest.2.1 12 = .ok (.irem, 1) := by decide +kernel
theorem d_X2_dropLatest_13 : decode mi_X2_dropLatest.2.1 13 = .ok (.putfield 21, 3) := by decide +kernel
theorem d_X2_dropLatest_16 : decode mi_X2_dropLatest.2.1 16 = .ok (.aload_n 0, 1) := by decide +kernel
theorem d_X2_dropLatest_17 : decode mi_X2_dropLatest.2.1 17 = .ok (.aload_n 0, 1) := by decide +kernel
theorem d_X2_dropLatest_18 : decode mi_X2_dropLatest.2.1 18 = .ok (.getfield 25, 3) := by decide +kernel
theorem d_X2_dropLatest_21 : decode mi_X2_dropLatest.2.1 21 = .ok (.iconst 1, 1) := by decide +kernel
theorem d_X2_dropLatest_22 : decode mi_X2_dropLatest.2.1 22 = .ok (.isub, 1) := by decide +kernel
theorem d_X2_dropLatest_23 : decode mi_X2_dropLatest.2.1 23 = .ok (.iconst 0, 1) := by decide +kernel
theorem d_X2_dropLatest_24 : decode mi_X2_dropLatest.2.1 24 = .ok (.invokestatic 47, 3) := by decide +kernel
theorem d_X2_dropLatest_27 : decode mi_X2_dropLatest.2.1 27 = .ok (.putfield 25, 3) := by decide +kernel
theorem d_X2_dropLatest_30 : decode mi_X2_dropLatest.2.1 30 = .ok (.return_, 1) := by decide +kernel
theorem cx_X2_47 : CX RX2 47 Lib.Math.max.name Lib.Math.max.code := by unfold CX; decide +kernel
def f_X2_dropLatest (σ : SS) : Option (Unit × SS) := lt_ (up σ 3 0 3 ((((σ.1 3 0 3) + (8 : Int32)) - (1 : Int32)) - (((σ.1 3 0 3) + (8 : Int32)) - (1 : Int32)) / (8 : Int32) * (8 : Int32))) (fun s1 => lt_ (up s1 3 0 4 (if ((s1.1 3 0 4) - (1 : Int32)) < (0 : Int32) then (0 : Int32) else ((s1.1 3 0 4) - (1 : Int32)))) (fun s2 => some ((), s2)))
set_option maxRecDepth 20000 in
theorem t_X2_dropLatest {d : Nat} {b : Nat × Nat} {σ : SS} {r : Unit} {σ' : SS} (h : f_X2_dropLatest σ = some (r, σ')) : MM (d + 1) b mi_X2_dropLatest [vR 3 0] σ (none, σ') := by
  refine MM.of (lv := [some (vR 3 0)]) (by decide +kernel) rfl rfl (fun X Y => ?_)
  rw [f_X2_dropLatest] at h
  refine r_aload_n (pc' := 1) d_X2_dropLatest_0 rfl rfl rfl ?_
  refine r_aload_n (pc' := 2) d_X2_dropLatest_1 rfl rfl rfl ?_
  refine r_get (v := vI _) (pc' := 5) fl_X2_21 d_X2_dropLatest_2 rfl rfl (fun _ => trivial) rfl ?_
  refine r_bipush (pc' := 7) d_X2_dropLatest_5 cb_8 rfl ?_
  refine r_iadd (pc' := 8) d_X2_dropLatest_7 rfl ?_
  refine r_iconst (pc' := 9) d_X2_dropLatest_8 ci_1 rfl ?_
  refine r_isub (pc' := 10) d_X2_dropLatest_9 rfl ?_
  refine r_bipush (pc' := 12) d_X2_dropLatest_10 cb_8 rfl ?_
  refine r_irem (pc' := 13) d_X2_dropLatest_12 (by decide) rfl ?_
  refine l_put (k := 3) (pc' := 16) fl_X2_21 fw_2_3 rfl rfl d_X2_dropLatest_13 rfl (by decide) (by decide) rfl rfl h (fun s1 h => ?_)
  refine r_aload_n (pc' := 17) d_X2_dropLatest_16 rfl rfl rfl ?_
  refine r_aload_n (pc' := 18) d_X2_dropLatest_17 rfl rfl rfl ?_
  refine r_get (v := vI _) (pc' := 21) fl_X2_25 d_X2_dropLatest_18 rfl rfl (fun _ => trivial) rfl ?_
  refine r_iconst (pc' := 22) d_X2_dropLatest_21 ci_1 rfl ?_
  refine r_isub (pc' := 23) d_X2_dropLatest_22 rfl ?_
  refine r_iconst (pc' := 24) d_X2_dropLatest_23 ci_0 rfl ?_
  refine r_mmax (pc' := 27) cx_X2_47 d_X2_dropLatest_24 rfl rfl ?_
  refine l_put (k := 4) (pc' := 30) fl_X2_25 fw_2_4 rfl rfl d_X2_dropLatest_27 rfl (by decide) (by decide) rfl rfl h (fun s2 h => ?_)
  exact r_vret d_X2_dropLatest_30 rfl h
/-! OctagonYard$Rules.isFull()Z -/
def mi_X5_isFull : MI := (yX5_isFull, cX5_isFull, 1, (some .boolean))
theorem d_X5_isFull_0 : decode mi_X5_isFull.2.1 0 = .ok (.aload_n 0, 1) := by decide +kernel
theorem d_X5_isFull_1 : decode mi_X5_isFull.2.1 1 = .ok (.getfield 28, 3) := by decide +kernel
theorem d_X5_isFull_4 : decode mi_X5_isFull.2.1 4 = .ok (.bipush 40, 2) := by decide +kernel
theorem d_X5_isFull_6 : decode mi_X5_isFull.2.1 6 = .ok (.if_icmp .lt 7, 3) := by decide +kernel
theorem d_X5_isFull_9 : decode mi_X5_isFull.2.1 9 = .ok (.iconst 1, 1) := by decide +kernel
theorem d_X5_isFull_10 : decode mi_X5_isFull.2.1 10 = .ok (.goto 4, 3) := by decide +kernel
theorem d_X5_isFull_13 : decode mi_X5_isFull.2.1 13 = .ok (.iconst 0, 1) := by decide +kernel
theorem d_X5_isFull_14 : decode mi_X5_isFull.2.1 14 = .ok (.ireturn, 1) := by decide +kernel
theorem cb_40 : (Int8.ofInt (40)).toInt32 = 40 := by decide
theorem in_5 : ∀ w ∈ u_ws RX5 TX5 6, w ∈ mtbl := by decide +kernel
theorem fl_X5_28 : FL RX5 28 5 6 4 := ⟨RX5, TX5, rfl, by decide, rfl, by decide +kernel, in_5⟩
def f_X5_isFull (σ : SS) : Option (Int32 × SS) := if (σ.1 7 0 4) < (40 : Int32) then (some ((0 : Int32), σ)) else (some ((1 : Int32), σ))
set_option maxRecDepth 20000 in
theorem t_X5_isFull {d : Nat} {b : Nat × Nat} {σ : SS} {r : Int32} {σ' : SS} (h : f_X5_isFull σ = some (r, σ')) : MM d b mi_X5_isFull [vR 7 0] σ (some (vI r), σ') := by
  refine MM.of (lv := [some (vR 7 0)]) (by decide +kernel) rfl rfl (fun X Y => ?_)
  rw [f_X5_isFull] at h
  refine r_aload_n (pc' := 1) d_X5_isFull_0 rfl rfl rfl ?_
  refine r_get (v := vI _) (pc' := 4) fl_X5_28 d_X5_isFull_1 rfl rfl (fun _ => trivial) rfl ?_
  refine r_bipush (pc' := 6) d_X5_isFull_4 cb_40 rfl ?_
  refine r_icmp_lt (pcT := 13) (pc' := 9) d_X5_isFull_6 rfl rfl h (fun _ h => ?_) (fun _ h => ?_)
  · refine r_iconst (pc' := 14) d_X5_isFull_13 ci_0 rfl ?_
    exact r_zret d_X5_isFull_14 rfl (Or.inl rfl) h
  · refine r_iconst (pc' := 10) d_X5_isFull_9 ci_1 rfl ?_
    refine r_goto (pc' := 14) d_X5_isFull_10 rfl ?_
    exact r_zret d_X5_isFull_14 rfl (Or.inr rfl) h
/-! OctagonYard$Rules.add(IIII)I -/
def mi_X5_add : MI := (yX5_add, cX5_add, 5, (some .int))
theorem d_X5_add_0 : decode mi_X5_add.2.1 0 = .ok (.aload_n 0, 1) := by decide +kernel
theorem d_X5_add_1 : decode mi_X5_add.2.1 1 = .ok (.getfield 11, 3) := by decide +kernel
theorem d_X5_add_4 : decode mi_X5_add.2.1 4 = .ok (.aload_n 0, 1) := by decide +kernel
theorem d_X5_add_5 : decode mi_X5_add.2.1 5 = .ok (.getfield 28, 3) := by decide +kernel
theorem d_X5_add_8 : decode mi_X5_add.2.1 8 = .ok (.iload_n 1, 1) := by decide +kernel
theorem d_X5_add_9 : decode mi_X5_add.2.1 9 = .ok (.iastore, 1) := by decide +kernel
theorem d_X5_add_10 : decode mi_X5_add.2.1 10 = .ok (.aload_n 0, 1) := by decide +kernel
theorem d_X5_add_11 : decode mi_X5_add.2.1 11 = .ok (.getfield 15, 3) := by decide +kernel
theorem d_X5_add_14 : decode mi_X5_add.2.1 14 = .ok (.aload_n 0, 1) := by decide +kernel
theorem d_X5_add_15 : decode mi_X5_add.2.1 15 = .ok (.getfield 28, 3) := by decide +kernel
theorem d_X5_add_18 : decode mi_X5_add.2.1 18 = .ok (.iload_n 2, 1) := by decide +kernel
theorem d_X5_add_19 : decode mi_X5_add.2.1 19 = .ok (.iastore, 1) := by decide +kernel
theorem d_X5_add_20 : decode mi_X5_add.2.1 20 = .ok (.aload_n 0, 1) := by decide +kernel
theorem d_X5_add_21 : decode mi_X5_add.2.1 21 = .ok (.getfield 18, 3) := by decide +kernel
theorem d_X5_add_24 : decode mi_X5_add.2.1 24 = .ok (.aload_n 0, 1) := by decide +kernel
theorem d_X5_add_25 : decode mi_X5_add.2.1 25 = .ok (.getfield 28, 3) := by decide +kernel
theorem d_X5_add_28 : decode mi_X5_add.2.1 28 = .ok (.iload_n 3, 1) := by decide +kernel
theorem d_X5_add_29 : decode mi_X5_add.2.1 29 = .ok (.iastore, 1) := by decide +kernel
theorem d_X5_add_30 : decode mi_X5_add.2.1 30 = .ok (.aload_n 0, 1) := by decide +kernel
theorem d_X5_add_31 : decode mi_X5_add.2.1 31 = .ok (.getfield 21, 3) := by decide +kernel
theorem d_X5_add_34 : decode mi_X5_add.2.1 34 = .ok (.aload_n 0, 1) := by decide +kernel
theorem d_X5_add_35 : decode mi_X5_add.2.1 35 = .ok (.getfield 28, 3) := by decide +kernel
theorem d_X5_add_38 : decode mi_X5_add.2.1 38 = .ok (.iload 4, 2) := by decide +kernel
theorem d_X5_add_40 : decode mi_X5_add.2.1 40 = .ok (.iastore, 1) := by decide +kernel
theorem d_X5_add_41 : decode mi_X5_add.2.1 41 = .ok (.aload_n 0, 1) := by decide +kernel
theorem d_X5_add_42 : decode mi_X5_add.2.1 42 = .ok (.dup, 1) := by decide +kernel
theorem d_X5_add_43 : decode mi_X5_add.2.1 43 = .ok (.getfield 28, 3) := by decide +kernel
theorem d_X5_add_46 : decode mi_X5_add.2.1 46 = .ok (.dup_x1, 1) := by decide +kernel
theorem d_X5_add_47 : decode mi_X5_add.2.1 47 = .ok (.iconst 1, 1) := by decide +kernel
theorem d_X5_add_48 : decode mi_X5_add.2.1 48 = .ok (.iadd, 1) := by decide +kernel
theorem d_X5_add_49 : decode mi_X5_add.2.1 49 = .ok (.putfield 28, 3) := by decide +kernel
theorem d_X5_add_52 : decode mi_X5_add.2.1 52 = .ok (.ireturn, 1) := by decide +kernel
theorem fl_X5_11 : FL RX5 11 5 6 0 := ⟨RX5, TX5, rfl, by decide, rfl, by decide +kernel, in_5⟩
theorem fl_X5_15 : FL RX5 15 5 6 1 := ⟨RX5, TX5, rfl, by decide, rfl, by decide +kernel, in_5⟩
theorem fl_X5_18 : FL RX5 18 5 6 2 := ⟨RX5, TX5, rfl, by decide, rfl, by decide +kernel, in_5⟩
theorem fl_X5_21 : FL RX5 21 5 6 3 := ⟨RX5, TX5, rfl, by decide, rfl, by decide +kernel, in_5⟩
theorem fw_5_4 : FW 5 6 4 .int := ⟨RX5, TX5, tyX5, rfl, rfl, by decide +kernel, tyX5_ok, nmX5⟩
def f_X5_add (v1 : Int32) (v2 : Int32) (v3 : Int32) (v4 : Int32) (σ : SS) : Option (Int32 × SS) := chk (inr (σ.1 7 0 4) 40) (lt_ (up σ 8 0 (ix (σ.1 7 0 4)) v1) (fun s1 => chk (inr (s1.1 7 0 4) 40) (lt_ (up s1 9 0 (ix (s1.1 7 0 4)) v2) (fun s2 => chk (inr (s2.1 7 0 4) 40) (lt_ (up s2 10 0 (ix (s2.1 7 0 4)) v3) (fun s3 => chk (inr (s3.1 7 0 4) 40) (lt_ (up s3 11 0 (ix (s3.1 7 0 4)) v4) (fun s4 => lt_ (up s4 7 0 4 ((s4.1 7 0 4) + (1 : Int32))) (fun s5 => some ((s4.1 7 0 4), s5))))))))))
set_option maxRecDepth 20000 in
theorem t_X5_add {d : Nat} {b : Nat × Nat} {v1 : Int32} {v2 : Int32} {v3 : Int32} {v4 : Int32} {σ : SS} {r : Int32} {σ' : SS} (h : f_X5_add v1 v2 v3 v4 σ = some (r, σ')) : MM d b mi_X5_add [vR 7 0, vI v1, vI v2, vI v3, vI v4] σ (some (vI r), σ') := by
  refine MM.of (lv := [some (vR 7 0), some (vI v1), some (vI v2), some (vI v3), some (vI v4)]) (by decide +kernel) rfl rfl (fun X Y => ?_)
  rw [f_X5_add] at h
  refine r_aload_n (pc' := 1) d_X5_add_0 rfl rfl rfl ?_
  refine r_get (v := vR 8 _) (pc' := 4) fl_X5_11 d_X5_add_1 rfl rfl (fun g => Or.inl ⟨rfl, g.2⟩) rfl ?_
  refine r_aload_n (pc' := 5) d_X5_add_4 rfl rfl rfl ?_
  refine r_get (v := vI _) (pc' := 8) fl_X5_28 d_X5_add_5 rfl rfl (fun _ => trivial) rfl ?_
  refine r_iload_n (pc' := 9) d_X5_add_8 rfl rfl rfl ?_
  refine l_iastore (pc' := 10) d_X5_add_9 rfl (fun _ => rfl) (by decide) (by decide) (fun _ => rfl) rfl h (fun s1 h => ?_)
  refine r_aload_n (pc' := 11) d_X5_add_10 rfl rfl rfl ?_
  refine r_get (v := vR 9 _) (pc' := 14) fl_X5_15 d_X5_add_11 rfl rfl (fun g => Or.inl ⟨rfl, g.2⟩) rfl ?_
  refine r_aload_n (pc' := 15) d_X5_add_14 rfl rfl rfl ?_
  refine r_get (v := vI _) (pc' := 18) fl_X5_28 d_X5_add_15 rfl rfl (fun _ => trivial) rfl ?_
  refine r_iload_n (pc' := 19) d_X5_add_18 rfl rfl rfl ?_
  refine l_iastore (pc' := 20) d_X5_add_19 rfl (fun _ => rfl) (by decide) (by decide) (fun _ => rfl) rfl h (fun s2 h => ?_)
  refine r_aload_n (pc' := 21) d_X5_add_20 rfl rfl rfl ?_
  refine r_get (v := vR 10 _) (pc' := 24) fl_X5_18 d_X5_add_21 rfl rfl (fun g => Or.inl ⟨rfl, g.2⟩) rfl ?_
  refine r_aload_n (pc' := 25) d_X5_add_24 rfl rfl rfl ?_
  refine r_get (v := vI _) (pc' := 28) fl_X5_28 d_X5_add_25 rfl rfl (fun _ => trivial) rfl ?_
  refine r_iload_n (pc' := 29) d_X5_add_28 rfl rfl rfl ?_
  refine l_iastore (pc' := 30) d_X5_add_29 rfl (fun _ => rfl) (by decide) (by decide) (fun _ => rfl) rfl h (fun s3 h => ?_)
  refine r_aload_n (pc' := 31) d_X5_add_30 rfl rfl rfl ?_
  refine r_get (v := vR 11 _) (pc' := 34) fl_X5_21 d_X5_add_31 rfl rfl (fun g => Or.inl ⟨rfl, g.2⟩) rfl ?_
  refine r_aload_n (pc' := 35) d_X5_add_34 rfl rfl rfl ?_
  refine r_get (v := vI _) (pc' := 38) fl_X5_28 d_X5_add_35 rfl rfl (fun _ => trivial) rfl ?_
  refine r_iload (pc' := 40) d_X5_add_38 rfl rfl ?_
  refine l_iastore (pc' := 41) d_X5_add_40 rfl (fun _ => rfl) (by decide) (by decide) (fun _ => rfl) rfl h (fun s4 h => ?_)
  refine r_aload_n (pc' := 42) d_X5_add_41 rfl rfl rfl ?_
  refine r_dup (pc' := 43) d_X5_add_42 rfl rfl ?_
  refine r_get (v := vI _) (pc' := 46) fl_X5_28 d_X5_add_43 rfl rfl (fun _ => trivial) rfl ?_
  refine r_dup_x1 (pc' := 47) d_X5_add_46 rfl rfl rfl ?_
  refine r_iconst (pc' := 48) d_X5_add_47 ci_1 rfl ?_
  refine r_iadd (pc' := 49) d_X5_add_48 rfl ?_
  refine l_put (k := 4) (pc' := 52) fl_X5_28 fw_5_4 rfl rfl d_X5_add_49 rfl (by decide) (by decide) rfl rfl h (fun s5 h => ?_)
  exact r_iret d_X5_add_52 rfl h
/-! OctagonYard$Rules.switchPack(IZ)I -/
def mi_X5_switchPack : MI := (yX5_switchPack, cX5_switchPack, 4, (some .int))
theorem d_X5_switchPack_0 : decode mi_X5_switchPack.2.1 0 = .ok (.aload_n 0, 1) := by decide +kernel
theorem d_X5_switchPack_1 : decode mi_X5_switchPack.2.1 1 = .ok (.getfield 24, 3) := by decide +kernel
theorem d_X5_switchPack_4 : decode mi_X5_switchPack.2.1 4 = .ok (.iload_n 1, 1) := by decide +kernel
theorem d_X5_switchPack_5 : decode mi_X5_switchPack.2.1 5 = .ok (.ishr, 1) := by decide +kernel
theorem d_X5_switchPack_6 : decode mi_X5_switchPack.2.1 6 = .ok (.iconst 1, 1) := by decide +kernel
theorem d_X5_switchPack_7 : decode mi_X5_switchPack.2.1 7 = .ok (.iand, 1) := by decide +kernel
theorem d_X5_switchPack_8 : decode mi_X5_switchPack.2.1 8 = .ok (.istore_n 3, 1) := by decide +kernel
theorem d_X5_switchPack_9 : decode mi_X5_switchPack.2.1 9 = .ok (.aload_n 0, 1) := by decide +kernel
theorem d_X5_switchPack_10 : decode mi_X5_switchPack.2.1 10 = .ok (.iload_n 2, 1) := by decide +kernel
theorem d_X5_switchPack_11 : decode mi_X5_switchPack.2.1 11 = .ok (.ifCond .eq 14, 3) := by decide +kernel
theorem d_X5_switchPack_14 : decode mi_X5_switchPack.2.1 14 = .ok (.aload_n 0, 1) := by decide +kernel
theorem d_X5_switchPack_15 : decode mi_X5_switchPack.2.1 15 = .ok (.getfield 24, 3) := by decide +kernel
theorem d_X5_switchPack_18 : decode mi_X5_switchPack.2.1 18 = .ok (.iconst 1, 1) := by decide +kernel
theorem d_X5_switchPack_19 : decode mi_X5_switchPack.2.1 19 = .ok (.iload_n 1, 1) := by decide +kernel
theorem d_X5_switchPack_20 : decode mi_X5_switchPack.2.1 20 = .ok (.ishl, 1) := by decide +kernel
theorem d_X5_switchPack_21 : decode mi_X5_switchPack.2.1 21 = .ok (.ior, 1) := by decide +kernel
theorem d_X5_switchPack_22 : decode mi_X5_switchPack.2.1 22 = .ok (.goto 13, 3) := by decide +kernel
theorem d_X5_switchPack_25 : decode mi_X5_switchPack.2.1 25 = .ok (.aload_n 0, 1) := by decide +kernel
theorem d_X5_switchPack_26 : decode mi_X5_switchPack.2.1 26 = .ok (.getfield 24, 3) := by decide +kernel
theorem d_X5_switchPack_29 : decode mi_X5_switchPack.2.1 29 = .ok (.iconst 1, 1) := by decide +kernel
theorem d_X5_switchPack_30 : decode mi_X5_switchPack.2.1 30 = .ok (.iload_n 1, 1) := by decide +kernel
theorem d_X5_switchPack_31 : decode mi_X5_switchPack.2.1 31 = .ok (.ishl, 1) := by decide +kernel
theorem d_X5_switchPack_32 : decode mi_X5_switchPack.2.1 32 = .ok (.iconst (-1), 1) := by decide +kernel
theorem d_X5_switchPack_33 : decode mi_X5_switchPack.2.1 33 = .ok (.ixor, 1) := by decide +kernel
theorem d_X5_switchPack_34 : decode mi_X5_switchPack.2.1 34 = .ok (.iand, 1) := by decide +kernel
theorem d_X5_switchPack_35 : decode mi_X5_switchPack.2.1 35 = .ok (.putfield 24, 3) := by decide +kernel
theorem d_X5_switchPack_38 : decode mi_X5_switchPack.2.1 38 = .ok (.iload_n 3, 1) := by decide +kernel
theorem d_X5_switchPack_39 : decode mi_X5_switchPack.2.1 39 = .ok (.ireturn, 1) := by decide +kernel
theorem fl_X5_24 : FL RX5 24 5 6 5 := ⟨RX5, TX5, rfl, by decide, rfl, by decide +kernel, in_5⟩
theorem fw_5_5 : FW 5 6 5 .int := ⟨RX5, TX5, tyX5, rfl, rfl, by decide +kernel, tyX5_ok, nmX5⟩
def f_X5_switchPack (v1 : Int32) (v2 : Int32) (σ : SS) : Option (Int32 × SS) := lt_ (((σ.1 7 0 5) >>> (v1 &&& 31)) &&& (1 : Int32)) (fun x1 => if v2 = 0 then (lt_ (up σ 7 0 5 ((σ.1 7 0 5) &&& (((1 : Int32) <<< (v1 &&& 31)) ^^^ (-1 : Int32)))) (fun s2 => some (x1, s2))) else (lt_ (up σ 7 0 5 ((σ.1 7 0 5) ||| ((1 : Int32) <<< (v1 &&& 31)))) (fun s3 => some (x1, s3))))
set_option maxRecDepth 20000 in
theorem t_X5_switchPack {d : Nat} {b : Nat × Nat} {v1 : Int32} {v2 : Int32} {σ : SS} {r : Int32} {σ' : SS} (h : f_X5_switchPack v1 v2 σ = some (r, σ')) : MM d b mi_X5_switchPack [vR 7 0, vI v1, vI v2] σ (some (vI r), σ') := by
  refine MM.of (lv := [some (vR 7 0), some (vI v1), some (vI v2), none]) (by decide +kernel) rfl rfl (fun X Y => ?_)
  rw [f_X5_switchPack] at h
  refine r_aload_n (pc' := 1) d_X5_switchPack_0 rfl rfl rfl ?_
  refine r_get (v := vI _) (pc' := 4) fl_X5_24 d_X5_switchPack_1 rfl rfl (fun _ => trivial) rfl ?_
  refine r_iload_n (pc' := 5) d_X5_switchPack_4 rfl rfl rfl ?_
  refine r_ishr (pc' := 6) d_X5_switchPack_5 rfl ?_
  refine r_iconst (pc' := 7) d_X5_switchPack_6 ci_1 rfl ?_
  refine r_iand (pc' := 8) d_X5_switchPack_7 rfl ?_
  refine l_istore_n (pc' := 9) d_X5_switchPack_8 rfl rfl rfl rfl h (fun x1 h => ?_)
  refine r_aload_n (pc' := 10) d_X5_switchPack_9 rfl rfl rfl ?_
  refine r_iload_n (pc' := 11) d_X5_switchPack_10 rfl rfl rfl ?_
  refine r_if_eq (pcT := 25) (pc' := 14) d_X5_switchPack_11 rfl rfl h (fun _ h => ?_) (fun _ h => ?_)
  · refine r_aload_n (pc' := 26) d_X5_switchPack_25 rfl rfl rfl ?_
    refine r_get (v := vI _) (pc' := 29) fl_X5_24 d_X5_switchPack_26 rfl rfl (fun _ => trivial) rfl ?_
    refine r_iconst (pc' := 30) d_X5_switchPack_29 ci_1 rfl ?_
    refine r_iload_n (pc' := 31) d_X5_switchPack_30 rfl rfl rfl ?_
    refine r_ishl (pc' := 32) d_X5_switchPack_31 rfl ?_
    refine r_iconst (pc' := 33) d_X5_switchPack_32 ci_m1 rfl ?_
    refine r_ixor (pc' := 34) d_X5_switchPack_33 rfl ?_
    refine r_iand (pc' := 35) d_X5_switchPack_34 rfl ?_
    refine l_put (k := 5) (pc' := 38) fl_X5_24 fw_5_5 rfl rfl d_X5_switchPack_35 rfl (by decide) (by decide) rfl rfl h (fun s2 h => ?_)
    refine r_iload_n (pc' := 39) d_X5_switchPack_38 rfl rfl rfl ?_
    exact r_iret d_X5_switchPack_39 rfl h
  · refine r_aload_n (pc' := 15) d_X5_switchPack_14 rfl rfl rfl ?_
    refine r_get (v := vI _) (pc' := 18) fl_X5_24 d_X5_switchPack_15 rfl rfl (fun _ => trivial) rfl ?_
    refine r_iconst (pc' := 19) d_X5_switchPack_18 ci_1 rfl ?_
    refine r_iload_n (pc' := 20) d_X5_switchPack_19 rfl rfl rfl ?_
    refine r_ishl (pc' := 21) d_X5_switchPack_20 rfl ?_
    refine r_ior (pc' := 22) d_X5_switchPack_21 rfl ?_
    refine r_goto (pc' := 35) d_X5_switchPack_22 rfl ?_
    refine l_put (k := 5) (pc' := 38) fl_X5_24 fw_5_5 rfl rfl d_X5_switchPack_35 rfl (by decide) (by decide) rfl rfl h (fun s3 h => ?_)
    refine r_iload_n (pc' := 39) d_X5_switchPack_38 rfl rfl rfl ?_
    exact r_iret d_X5_switchPack_39 rfl h
/-! OctagonYard$Rules.numberOf(I)I -/
def mi_X5_numberOf : MI := (yX5_numberOf, cX5_numberOf, 2, (some .int))
theorem d_X5_numberOf_0 : decode mi_X5_numberOf.2.1 0 = .ok (.bipush 39, 2) := by decide +kernel
theorem d_X5_numberOf_2 : decode mi_X5_numberOf.2.1 2 = .ok (.iload_n 1, 1) := by decide +kernel
theorem d_X5_numberOf_3 : decode mi_X5_numberOf.2.1 3 = .ok (.bipush 40, 2) := by decide +kernel
theorem d_X5_numberOf_5 : decode mi_X5_numberOf.2.1 5 = .ok (.irem, 1) := by decide +kernel
theorem d_X5_numberOf_6 : decode mi_X5_numberOf.2.1 6 = .ok (.isub, 1) := by decide +kernel
theorem d_X5_numberOf_7 : decode mi_X5_numberOf.2.1 7 = .ok (.ireturn, 1) := by decide +kernel
theorem cb_39 : (Int8.ofInt (39)).toInt32 = 39 := by decide
def f_X5_numberOf (v1 : Int32) (σ : SS) : Option (Int32 × SS) := some (((39 : Int32) - (v1 - v1 / (40 : Int32) * (40 : Int32))), σ)
set_option maxRecDepth 20000 in
theorem t_X5_numberOf {d : Nat} {b : Nat × Nat} {v1 : Int32} {σ : SS} {r : Int32} {σ' : SS} (h : f_X5_numberOf v1 σ = some (r, σ')) : MM d b mi_X5_numberOf [vR 7 0, vI v1] σ (some (vI r), σ') := by
  refine MM.of (lv := [some (vR 7 0), some (vI v1)]) (by decide +kernel) rfl rfl (fun X Y => ?_)
  rw [f_X5_numberOf] at h
  refine r_bipush (pc' := 2) d_X5_numberOf_0 cb_39 rfl ?_
  refine r_iload_n (pc' := 3) d_X5_numberOf_2 rfl rfl rfl ?_
  refine r_bipush (pc' := 5) d_X5_numberOf_3 cb_40 rfl ?_
  refine r_irem (pc' := 6) d_X5_numberOf_5 (by decide) rfl ?_
  refine r_isub (pc' := 7) d_X5_numberOf_6 rfl ?_
  exact r_iret d_X5_numberOf_7 rfl h
/-! OctagonYard$Rules.stepsTo(II)I -/
def mi_X5_stepsTo : MI := (yX5_stepsTo, cX5_stepsTo, 2, (some .int))
theorem d_X5_stepsTo_0 : decode mi_X5_stepsTo.2.1 0 = .ok (.iload_n 1, 1) := by decide +kernel
theorem d_X5_stepsTo_1 : decode mi_X5_stepsTo.2.1 1 = .ok (.iload_n 0, 1) := by decide +kernel
theorem d_X5_stepsTo_2 : decode mi_X5_stepsTo.2.1 2 = .ok (.if_icmp .ne 5, 3) := by decide +kernel
theorem d_X5_stepsTo_5 : decode mi_X5_stepsTo.2.1 5 = .ok (.iconst 0, 1) := by decide +kernel
theorem d_X5_stepsTo_6 : decode mi_X5_stepsTo.2.1 6 = .ok (.ireturn, 1) := by decide +kernel
theorem d_X5_stepsTo_7 : decode mi_X5_stepsTo.2.1 7 = .ok (.iload_n 1, 1) := by decide +kernel
theorem d_X5_stepsTo_8 : decode mi_X5_stepsTo.2.1 8 = .ok (.iload_n 0, 1) := by decide +kernel
theorem d_X5_stepsTo_9 : decode mi_X5_stepsTo.2.1 9 = .ok (.invokestatic 50, 3) := by decide +kernel
theorem d_X5_stepsTo_12 : decode mi_X5_stepsTo.2.1 12 = .ok (.if_icmp .ne 5, 3) := by decide +kernel
theorem d_X5_stepsTo_15 : decode mi_X5_stepsTo.2.1 15 = .ok (.iconst 1, 1) := by decide +kernel
theorem d_X5_stepsTo_16 : decode mi_X5_stepsTo.2.1 16 = .ok (.ireturn, 1) := by decide +kernel
theorem d_X5_stepsTo_17 : decode mi_X5_stepsTo.2.1 17 = .ok (.iload_n 1, 1) := by decide +kernel
theorem d_X5_stepsTo_18 : decode mi_X5_stepsTo.2.1 18 = .ok (.bipush 9, 2) := by decide +kernel
theorem d_X5_stepsTo_20 : decode mi_X5_stepsTo.2.1 20 = .ok (.if_icmp .ne 7, 3) := by decide +kernel
theorem d_X5_stepsTo_23 : decode mi_X5_stepsTo.2.1 23 = .ok (.iconst 2, 1) := by decide +kernel
theorem d_X5_stepsTo_24 : decode mi_X5_stepsTo.2.1 24 = .ok (.goto 4, 3) := by decide +kernel
theorem d_X5_stepsTo_27 : decode mi_X5_stepsTo.2.1 27 = .ok (.iconst (-1), 1) := by decide +kernel
theorem d_X5_stepsTo_28 : decode mi_X5_stepsTo.2.1 28 = .ok (.ireturn, 1) := by decide +kernel
theorem cb_9 : (Int8.ofInt (9)).toInt32 = 9 := by decide
theorem cw_X5_50 : CN RX5 50 "OctagonYard" mi_X7_familyOf 1 := by unfold CN; decide +kernel
def f_X5_stepsTo (v0 : Int32) (v1 : Int32) (σ : SS) : Option (Int32 × SS) := if v1 = v0 then (some ((0 : Int32), σ)) else (cal (f_X7_familyOf v0 σ) (fun x2 s1 => if v1 = x2 then (some ((1 : Int32), s1)) else (if v1 = (9 : Int32) then (some ((2 : Int32), s1)) else (some ((-1 : Int32), s1)))))
set_option maxRecDepth 20000 in
theorem t_X5_stepsTo {d : Nat} {b : Nat × Nat} {v0 : Int32} {v1 : Int32} {σ : SS} {r : Int32} {σ' : SS} (h : f_X5_stepsTo v0 v1 σ = some (r, σ')) : MM (d + 1) b mi_X5_stepsTo [vI v0, vI v1] σ (some (vI r), σ') := by
  refine MM.of (lv := [some (vI v0), some (vI v1)]) (by decide +kernel) rfl rfl (fun X Y => ?_)
  rw [f_X5_stepsTo] at h
  refine r_iload_n (pc' := 1) d_X5_stepsTo_0 rfl rfl rfl ?_
  refine r_iload_n (pc' := 2) d_X5_stepsTo_1 rfl rfl rfl ?_
  refine r_icmp_ne (pcT := 7) (pc' := 5) d_X5_stepsTo_2 rfl rfl h (fun _ h => ?_) (fun _ h => ?_)
  · refine r_iconst (pc' := 6) d_X5_stepsTo_5 ci_0 rfl ?_
    exact r_iret d_X5_stepsTo_6 rfl h
  · refine r_iload_n (pc' := 8) d_X5_stepsTo_7 rfl rfl rfl ?_
    refine r_iload_n (pc' := 9) d_X5_stepsTo_8 rfl rfl rfl ?_
    refine n1_i (mc := mi_X7_familyOf) (bc := (0, 0)) (b' := _) (pc' := 12) cw_X5_50 d_X5_stepsTo_9 rfl (Nat.zero_add _).symm (Nat.zero_add _).symm rfl h (fun _ _ e => t_X7_familyOf e) (fun x2 s1 h => ?_)
    refine r_icmp_ne (pcT := 17) (pc' := 15) d_X5_stepsTo_12 rfl rfl h (fun _ h => ?_) (fun _ h => ?_)
    · refine r_iconst (pc' := 16) d_X5_stepsTo_15 ci_1 rfl ?_
      exact r_iret d_X5_stepsTo_16 rfl h
    · refine r_iload_n (pc' := 18) d_X5_stepsTo_17 rfl rfl rfl ?_
      refine r_bipush (pc' := 20) d_X5_stepsTo_18 cb_9 rfl ?_
      refine r_icmp_ne (pcT := 27) (pc' := 23) d_X5_stepsTo_20 rfl rfl h (fun _ h => ?_) (fun _ h => ?_)
      · refine r_iconst (pc' := 24) d_X5_stepsTo_23 ci_2 rfl ?_
        refine r_goto (pc' := 28) d_X5_stepsTo_24 rfl ?_
        exact r_iret d_X5_stepsTo_28 rfl h
      · refine r_iconst (pc' := 28) d_X5_stepsTo_27 ci_m1 rfl ?_
        exact r_iret d_X5_stepsTo_28 rfl h
/-! OctagonYard$Rules.counts(III)Z -/
def mi_X5_counts : MI := (yX5_counts, cX5_counts, 5, (some .boolean))
theorem d_X5_counts_0 : decode mi_X5_counts.2.1 0 = .ok (.aload_n 0, 1) := by decide +kernel
theorem d_X5_counts_1 : decode mi_X5_counts.2.1 1 = .ok (.getfield 24, 3) := by decide +kernel
theorem d_X5_counts_4 : decode mi_X5_counts.2.1 4 = .ok (.aload_n 0, 1) := by decide +kernel
theorem d_X5_counts_5 : decode mi_X5_counts.2.1 5 = .ok (.getfield 21, 3) := by decide +kernel
theorem d_X5_counts_8 : decode mi_X5_counts.2.1 8 = .ok (.iload_n 1, 1) := by decide +kernel
theorem d_X5_counts_9 : decode mi_X5_counts.2.1 9 = .ok (.iaload, 1) := by decide +kernel
theorem d_X5_counts_10 : decode mi_X5_counts.2.1 10 = .ok (.ishr, 1) := by decide +kernel
theorem d_X5_counts_11 : decode mi_X5_counts.2.1 11 = .ok (.iconst 1, 1) := by decide +kernel
theorem d_X5_counts_12 : decode mi_X5_counts.2.1 12 = .ok (.iand, 1) := by decide +kernel
theorem d_X5_counts_13 : decode mi_X5_counts.2.1 13 = .ok (.ifCond .eq 7, 3) := by decide +kernel
theorem d_X5_counts_16 : decode mi_X5_counts.2.1 16 = .ok (.iconst 1, 1) := by decide +kernel
theorem d_X5_counts_17 : decode mi_X5_counts.2.1 17 = .ok (.goto 4, 3) := by decide +kernel
theorem d_X5_counts_20 : decode mi_X5_counts.2.1 20 = .ok (.iconst 0, 1) := by decide +kernel
theorem d_X5_counts_21 : decode mi_X5_counts.2.1 21 = .ok (.istore 4, 2) := by decide +kernel
theorem d_X5_counts_23 : decode mi_X5_counts.2.1 23 = .ok (.iload 4, 2) := by decide +kernel
theorem d_X5_counts_25 : decode mi_X5_counts.2.1 25 = .ok (.ifCond .eq 35, 3) := by decide +kernel
theorem d_X5_counts_28 : decode mi_X5_counts.2.1 28 = .ok (.iload_n 2, 1) := by decide +kernel
theorem d_X5_counts_29 : decode mi_X5_counts.2.1 29 = .ok (.aload_n 0, 1) := by decide +kernel
theorem d_X5_counts_30 : decode mi_X5_counts.2.1 30 = .ok (.getfield 11, 3) := by decide +kernel
theorem d_X5_counts_33 : decode mi_X5_counts.2.1 33 = .ok (.iload_n 1, 1) := by decide +kernel
theorem d_X5_counts_34 : decode mi_X5_counts.2.1 34 = .ok (.iaload, 1) := by decide +kernel
theorem d_X5_counts_35 : decode mi_X5_counts.2.1 35 = .ok (.invokestatic 39, 3) := by decide +kernel
theorem d_X5_counts_38 : decode mi_X5_counts.2.1 38 = .ok (.iconst (-1), 1) := by decide +kernel
theorem d_X5_counts_39 : decode mi_X5_counts.2.1 39 = .ok (.if_icmp .eq 21, 3) := by decide +kernel
theorem d_X5_counts_42 : decode mi_X5_counts.2.1 42 = .ok (.iload_n 3, 1) := by decide +kernel
theorem d_X5_counts_43 : decode mi_X5_counts.2.1 43 = .ok (.aload_n 0, 1) := by decide +kernel
theorem d_X5_counts_44 : decode mi_X5_counts.2.1 44 = .ok (.getfield 15, 3) := by decide +kernel
theorem d_X5_counts_47 : decode mi_X5_counts.2.1 47 = .ok (.iload_n 1, 1) := by decide +kernel
theorem d_X5_counts_48 : decode mi_X5_counts.2.1 48 = .ok (.iaload, 1) := by decide +kernel
theorem d_X5_counts_49 : decode mi_X5_counts.2.1 49 = .ok (.invokestatic 39, 3) := by decide +kernel
theorem d_X5_counts_52 : decode mi_X5_counts.2.1 52 = .ok (.iconst (-1), 1) := by decide +kernel
theorem d_X5_counts_53 : decode mi_X5_counts.2.1 53 = .ok (.if_icmp .eq 7, 3) := by decide +kernel
theorem d_X5_counts_56 : decode mi_X5_counts.2.1 56 = .ok (.iconst 1, 1) := by decide +kernel
theorem d_X5_counts_57 : decode mi_X5_counts.2.1 57 = .ok (.goto 4, 3) := by decide +kernel
theorem d_X5_counts_60 : decode mi_X5_counts.2.1 60 = .ok (.iconst 0, 1) := by decide +kernel
theorem d_X5_counts_61 : decode mi_X5_counts.2.1 61 = .ok (.ireturn, 1) := by decide +kernel
theorem cw_X5_39 : CT RX5 39 mi_X5_stepsTo 2 := by unfold CT; decide +kernel
def f_X5_counts_21 (v1 : Int32) (v2 : Int32) (v3 : Int32) (u0 : Int32) (σ : SS) : Option (Int32 × SS) := if u0 = 0 then (some ((0 : Int32), σ)) else (chk (inr v1 40) (cal (f_X5_stepsTo v2 (σ.1 8 0 (ix v1)) σ) (fun x2 s1 => if x2 = (-1 : Int32) then (some ((0 : Int32), s1)) else (chk (inr v1 40) (cal (f_X5_stepsTo v3 (s1.1 9 0 (ix v1)) s1) (fun x4 s3 => if x4 = (-1 : Int32) then (some ((0 : Int32), s3)) else (some ((1 : Int32), s3))))))))
set_option maxRecDepth 20000 in
theorem t_X5_counts_21 {d : Nat} {X : MX} {Y : MY} {b : Nat × Nat} {r : Int32} {σ' : SS} {v1 : Int32} {v2 : Int32} {v3 : Int32} {u0 : Int32} {σ : SS} (h : f_X5_counts_21 v1 v2 v3 u0 σ = some (r, σ')) : WM (d + 2) X Y b mi_X5_counts 21 [some (vR 7 0), some (vI v1), some (vI v2), some (vI v3), none] [vI u0] σ (some (vI r), σ') := by
  rw [f_X5_counts_21] at h
  refine r_istore (pc' := 23) d_X5_counts_21 rfl rfl rfl ?_
  refine r_iload (pc' := 25) d_X5_counts_23 rfl rfl ?_
  refine r_if_eq (pcT := 60) (pc' := 28) d_X5_counts_25 rfl rfl h (fun _ h => ?_) (fun _ h => ?_)
  · refine r_iconst (pc' := 61) d_X5_counts_60 ci_0 rfl ?_
    exact r_zret d_X5_counts_61 rfl (Or.inl rfl) h
  · refine r_iload_n (pc' := 29) d_X5_counts_28 rfl rfl rfl ?_
    refine r_aload_n (pc' := 30) d_X5_counts_29 rfl rfl rfl ?_
    refine r_get (v := vR 8 _) (pc' := 33) fl_X5_11 d_X5_counts_30 rfl rfl (fun g => Or.inl ⟨rfl, g.2⟩) rfl ?_
    refine r_iload_n (pc' := 34) d_X5_counts_33 rfl rfl rfl ?_
    refine r_iaload (pc' := 35) d_X5_counts_34 rfl (fun _ => rfl) rfl h (fun h => ?_)
    refine s2_i (mc := mi_X5_stepsTo) (bc := (0, 0)) (b' := _) (pc' := 38) cw_X5_39 d_X5_counts_35 rfl (Nat.zero_add _).symm (Nat.zero_add _).symm rfl h (fun _ _ e => t_X5_stepsTo e) (fun x2 s1 h => ?_)
    refine r_iconst (pc' := 39) d_X5_counts_38 ci_m1 rfl ?_
    refine r_icmp_eq (pcT := 60) (pc' := 42) d_X5_counts_39 rfl rfl h (fun _ h => ?_) (fun _ h => ?_)
    · refine r_iconst (pc' := 61) d_X5_counts_60 ci_0 rfl ?_
      exact r_zret d_X5_counts_61 rfl (Or.inl rfl) h
    · refine r_iload_n (pc' := 43) d_X5_counts_42 rfl rfl rfl ?_
      refine r_aload_n (pc' := 44) d_X5_counts_43 rfl rfl rfl ?_
      refine r_get (v := vR 9 _) (pc' := 47) fl_X5_15 d_X5_counts_44 rfl rfl (fun g => Or.inl ⟨rfl, g.2⟩) rfl ?_
      refine r_iload_n (pc' := 48) d_X5_counts_47 rfl rfl rfl ?_
      refine r_iaload (pc' := 49) d_X5_counts_48 rfl (fun _ => rfl) rfl h (fun h => ?_)
      refine s2_i (mc := mi_X5_stepsTo) (bc := (0, 0)) (b' := _) (pc' := 52) cw_X5_39 d_X5_counts_49 rfl (Nat.zero_add _).symm (Nat.zero_add _).symm rfl h (fun _ _ e => t_X5_stepsTo e) (fun x4 s3 h => ?_)
      refine r_iconst (pc' := 53) d_X5_counts_52 ci_m1 rfl ?_
      refine r_icmp_eq (pcT := 60) (pc' := 56) d_X5_counts_53 rfl rfl h (fun _ h => ?_) (fun _ h => ?_)
      · refine r_iconst (pc' := 61) d_X5_counts_60 ci_0 rfl ?_
        exact r_zret d_X5_counts_61 rfl (Or.inl rfl) h
      · refine r_iconst (pc' := 57) d_X5_counts_56 ci_1 rfl ?_
        refine r_goto (pc' := 61) d_X5_counts_57 rfl ?_
        exact r_zret d_X5_counts_61 rfl (Or.inr rfl) h
def f_X5_counts (v1 : Int32) (v2 : Int32) (v3 : Int32) (σ : SS) : Option (Int32 × SS) := chk (inr v1 40) (if (((σ.1 7 0 5) >>> ((σ.1 11 0 (ix v1)) &&& 31)) &&& (1 : Int32)) = 0 then (f_X5_counts_21 v1 v2 v3 (0 : Int32) σ) else (f_X5_counts_21 v1 v2 v3 (1 : Int32) σ))
set_option maxRecDepth 20000 in
theorem t_X5_counts {d : Nat} {b : Nat × Nat} {v1 : Int32} {v2 : Int32} {v3 : Int32} {σ : SS} {r : Int32} {σ' : SS} (h : f_X5_counts v1 v2 v3 σ = some (r, σ')) : MM (d + 2) b mi_X5_counts [vR 7 0, vI v1, vI v2, vI v3] σ (some (vI r), σ') := by
  refine MM.of (lv := [some (vR 7 0), some (vI v1), some (vI v2), some (vI v3), none]) (by decide +kernel) rfl rfl (fun X Y => ?_)
  rw [f_X5_counts] at h
  refine r_aload_n (pc' := 1) d_X5_counts_0 rfl rfl rfl ?_
  refine r_get (v := vI _) (pc' := 4) fl_X5_24 d_X5_counts_1 rfl rfl (fun _ => trivial) rfl ?_
  refine r_aload_n (pc' := 5) d_X5_counts_4 rfl rfl rfl ?_
  refine r_get (v := vR 11 _) (pc' := 8) fl_X5_21 d_X5_counts_5 rfl rfl (fun g => Or.inl ⟨rfl, g.2⟩) rfl ?_
  refine r_iload_n (pc' := 9) d_X5_counts_8 rfl rfl rfl ?_
  refine r_iaload (pc' := 10) d_X5_counts_9 rfl (fun _ => rfl) rfl h (fun h => ?_)
  refine r_ishr (pc' := 11) d_X5_counts_10 rfl ?_
  refine r_iconst (pc' := 12) d_X5_counts_11 ci_1 rfl ?_
  refine r_iand (pc' := 13) d_X5_counts_12 rfl ?_
  refine r_if_eq (pcT := 20) (pc' := 16) d_X5_counts_13 rfl rfl h (fun _ h => ?_) (fun _ h => ?_)
  · refine r_iconst (pc' := 21) d_X5_counts_20 ci_0 rfl ?_
    exact WM.drop [] rfl (t_X5_counts_21 h)
  · refine r_iconst (pc' := 17) d_X5_counts_16 ci_1 rfl ?_
    refine r_goto (pc' := 21) d_X5_counts_17 rfl ?_
    exact WM.drop [] rfl (t_X5_counts_21 h)
/-! OctagonYard$Rules.rankOf(III)I -/
def mi_X5_rankOf : MI := (yX5_rankOf, cX5_rankOf, 6, (some .int))
theorem d_X5_rankOf_0 : decode mi_X5_rankOf.2.1 0 = .ok (.iload_n 2, 1) := by decide +kernel
theorem d_X5_rankOf_1 : decode mi_X5_rankOf.2.1 1 = .ok (.aload_n 0, 1) := by decide +kernel
theorem d_X5_rankOf_2 : decode mi_X5_rankOf.2.1 2 = .ok (.getfield 11, 3) := by decide +kernel
theorem d_X5_rankOf_5 : decode mi_X5_rankOf.2.1 5 = .ok (.iload_n 1, 1) := by decide +kernel
theorem d_X5_rankOf_6 : decode mi_X5_rankOf.2.1 6 = .ok (.iaload, 1) := by decide +kernel
theorem d_X5_rankOf_7 : decode mi_X5_rankOf.2.1 7 = .ok (.invokestatic 39, 3) := by decide +kernel
theorem d_X5_rankOf_10 : decode mi_X5_rankOf.2.1 10 = .ok (.istore 4, 2) := by decide +kernel
theorem d_X5_rankOf_12 : decode mi_X5_rankOf.2.1 12 = .ok (.iload 4, 2) := by decide +kernel
theorem d_X5_rankOf_14 : decode mi_X5_rankOf.2.1 14 = .ok (.iload_n 3, 1) := by decide +kernel
theorem d_X5_rankOf_15 : decode mi_X5_rankOf.2.1 15 = .ok (.aload_n 0, 1) := by decide +kernel
theorem d_X5_rankOf_16 : decode mi_X5_rankOf.2.1 16 = .ok (.getfield 15, 3) := by decide +kernel
theorem d_X5_rankOf_19 : decode mi_X5_rankOf.2.1 19 = .ok (.iload_n 1, 1) := by decide +kernel
theorem d_X5_rankOf_20 : decode mi_X5_rankOf.2.1 20 = .ok (.iaload, 1) := by decide +kernel
theorem d_X5_rankOf_21 : decode mi_X5_rankOf.2.1 21 = .ok (.invokestatic 39, 3) := by decide +kernel
theorem d_X5_rankOf_24 : decode mi_X5_rankOf.2.1 24 = .ok (.iadd, 1) := by decide +kernel
theorem d_X5_rankOf_25 : decode mi_X5_rankOf.2.1 25 = .ok (.istore 5, 2) := by decide +kernel
theorem d_X5_rankOf_27 : decode mi_X5_rankOf.2.1 27 = .ok (.iload 5, 2) := by decide +kernel
theorem d_X5_rankOf_29 : decode mi_X5_rankOf.2.1 29 = .ok (.iconst 3, 1) := by decide +kernel
theorem d_X5_rankOf_30 : decode mi_X5_rankOf.2.1 30 = .ok (.imul, 1) := by decide +kernel
theorem d_X5_rankOf_31 : decode mi_X5_rankOf.2.1 31 = .ok (.iload 4, 2) := by decide +kernel
theorem d_X5_rankOf_33 : decode mi_X5_rankOf.2.1 33 = .ok (.iadd, 1) := by decide +kernel
theorem d_X5_rankOf_34 : decode mi_X5_rankOf.2.1 34 = .ok (.bipush 40, 2) := by decide +kernel
theorem d_X5_rankOf_36 : decode mi_X5_rankOf.2.1 36 = .ok (.imul, 1) := by decide +kernel
theorem d_X5_rankOf_37 : decode mi_X5_rankOf.2.1 37 = .ok (.bipush 40, 2) := by decide +kernel
theorem d_X5_rankOf_39 : decode mi_X5_rankOf.2.1 39 = .ok (.iadd, 1) := by decide +kernel
theorem d_X5_rankOf_40 : decode mi_X5_rankOf.2.1 40 = .ok (.iconst 1, 1) := by decide +kernel
theorem d_X5_rankOf_41 : decode mi_X5_rankOf.2.1 41 = .ok (.isub, 1) := by decide +kernel
theorem d_X5_rankOf_42 : decode mi_X5_rankOf.2.1 42 = .ok (.iload_n 1, 1) := by decide +kernel
theorem d_X5_rankOf_43 : decode mi_X5_rankOf.2.1 43 = .ok (.isub, 1) := by decide +kernel
theorem d_X5_rankOf_44 : decode mi_X5_rankOf.2.1 44 = .ok (.ireturn, 1) := by decide +kernel
def f_X5_rankOf (v1 : Int32) (v2 : Int32) (v3 : Int32) (σ : SS) : Option (Int32 × SS) := chk (inr v1 40) (cal (f_X5_stepsTo v2 (σ.1 8 0 (ix v1)) σ) (fun x2 s1 => chk (inr v1 40) (cal (f_X5_stepsTo v3 (s1.1 9 0 (ix v1)) s1) (fun x4 s3 => lt_ (x2 + x4) (fun x5 => some (((((((x5 * (3 : Int32)) + x2) * (40 : Int32)) + (40 : Int32)) - (1 : Int32)) - v1), s3))))))
set_option maxRecDepth 20000 in
theorem t_X5_rankOf {d : Nat} {b : Nat × Nat} {v1 : Int32} {v2 : Int32} {v3 : Int32} {σ : SS} {r : Int32} {σ' : SS} (h : f_X5_rankOf v1 v2 v3 σ = some (r, σ')) : MM (d + 2) b mi_X5_rankOf [vR 7 0, vI v1, vI v2, vI v3] σ (some (vI r), σ') := by
  refine MM.of (lv := [some (vR 7 0), some (vI v1), some (vI v2), some (vI v3), none, none]) (by decide +kernel) rfl rfl (fun X Y => ?_)
  rw [f_X5_rankOf] at h
  refine r_iload_n (pc' := 1) d_X5_rankOf_0 rfl rfl rfl ?_
  refine r_aload_n (pc' := 2) d_X5_rankOf_1 rfl rfl rfl ?_
  refine r_get (v := vR 8 _) (pc' := 5) fl_X5_11 d_X5_rankOf_2 rfl rfl (fun g => Or.inl ⟨rfl, g.2⟩) rfl ?_
  refine r_iload_n (pc' := 6) d_X5_rankOf_5 rfl rfl rfl ?_
  refine r_iaload (pc' := 7) d_X5_rankOf_6 rfl (fun _ => rfl) rfl h (fun h => ?_)
  refine s2_i (mc := mi_X5_stepsTo) (bc := (0, 0)) (b' := _) (pc' := 10) cw_X5_39 d_X5_rankOf_7 rfl (Nat.zero_add _).symm (Nat.zero_add _).symm rfl h (fun _ _ e => t_X5_stepsTo e) (fun x2 s1 h => ?_)
  refine r_istore (pc' := 12) d_X5_rankOf_10 rfl rfl rfl ?_
  refine r_iload (pc' := 14) d_X5_rankOf_12 rfl rfl ?_
  refine r_iload_n (pc' := 15) d_X5_rankOf_14 rfl rfl rfl ?_
  refine r_aload_n (pc' := 16) d_X5_rankOf_15 rfl rfl rfl ?_
  refine r_get (v := vR 9 _) (pc' := 19) fl_X5_15 d_X5_rankOf_16 rfl rfl (fun g => Or.inl ⟨rfl, g.2⟩) rfl ?_
  refine r_iload_n (pc' := 20) d_X5_rankOf_19 rfl rfl rfl ?_
  refine r_iaload (pc' := 21) d_X5_rankOf_20 rfl (fun _ => rfl) rfl h (fun h => ?_)
  refine s2_i (mc := mi_X5_stepsTo) (bc := (0, 0)) (b' := _) (pc' := 24) cw_X5_39 d_X5_rankOf_21 rfl (Nat.zero_add _).symm (Nat.zero_add _).symm rfl h (fun _ _ e => t_X5_stepsTo e) (fun x4 s3 h => ?_)
  refine r_iadd (pc' := 25) d_X5_rankOf_24 rfl ?_
  refine l_istore (pc' := 27) d_X5_rankOf_25 rfl rfl rfl h (fun x5 h => ?_)
  refine r_iload (pc' := 29) d_X5_rankOf_27 rfl rfl ?_
  refine r_iconst (pc' := 30) d_X5_rankOf_29 ci_3 rfl ?_
  refine r_imul (pc' := 31) d_X5_rankOf_30 rfl ?_
  refine r_iload (pc' := 33) d_X5_rankOf_31 rfl rfl ?_
  refine r_iadd (pc' := 34) d_X5_rankOf_33 rfl ?_
  refine r_bipush (pc' := 36) d_X5_rankOf_34 cb_40 rfl ?_
  refine r_imul (pc' := 37) d_X5_rankOf_36 rfl ?_
  refine r_bipush (pc' := 39) d_X5_rankOf_37 cb_40 rfl ?_
  refine r_iadd (pc' := 40) d_X5_rankOf_39 rfl ?_
  refine r_iconst (pc' := 41) d_X5_rankOf_40 ci_1 rfl ?_
  refine r_isub (pc' := 42) d_X5_rankOf_41 rfl ?_
  refine r_iload_n (pc' := 43) d_X5_rankOf_42 rfl rfl rfl ?_
  refine r_isub (pc' := 44) d_X5_rankOf_43 rfl ?_
  exact r_iret d_X5_rankOf_44 rfl h
/-! OctagonYard$Rules.rankAfter(III)I -/
def mi_X5_rankAfter : MI := (yX5_rankAfter, cX5_rankAfter, 7, (some .int))
theorem d_X5_rankAfter_0 : decode mi_X5_rankAfter.2.1 0 = .ok (.bipush (-4), 2) := by decide +kernel
theorem d_X5_rankAfter_2 : decode mi_X5_rankAfter.2.1 2 = .ok (.istore 4, 2) := by decide +kernel
theorem d_X5_rankAfter_4 : decode mi_X5_rankAfter.2.1 4 = .ok (.iconst 0, 1) := by decide +kernel
theorem d_X5_rankAfter_5 : decode mi_X5_rankAfter.2.1 5 = .ok (.istore 5, 2) := by decide +kernel
theorem d_X5_rankAfter_7 : decode mi_X5_rankAfter.2.1 7 = .ok (.iload 5, 2) := by decide +kernel
theorem d_X5_rankAfter_9 : decode mi_X5_rankAfter.2.1 9 = .ok (.aload_n 0, 1) := by decide +kernel
theorem d_X5_rankAfter_10 : decode mi_X5_rankAfter.2.1 10 = .ok (.getfield 28, 3) := by decide +kernel
theorem d_X5_rankAfter_13 : decode mi_X5_rankAfter.2.1 13 = .ok (.if_icmp .ge 54, 3) := by decide +kernel
theorem d_X5_rankAfter_16 : decode mi_X5_rankAfter.2.1 16 = .ok (.aload_n 0, 1) := by decide +kernel
theorem d_X5_rankAfter_17 : decode mi_X5_rankAfter.2.1 17 = .ok (.iload 5, 2) := by decide +kernel
theorem d_X5_rankAfter_19 : decode mi_X5_rankAfter.2.1 19 = .ok (.iload_n 1, 1) := by decide +kernel
theorem d_X5_rankAfter_20 : decode mi_X5_rankAfter.2.1 20 = .ok (.iload_n 2, 1) := by decide +kernel
theorem d_X5_rankAfter_21 : decode mi_X5_rankAfter.2.1 21 = .ok (.invokevirtual 43, 3) := by decide +kernel
theorem d_X5_rankAfter_24 : decode mi_X5_rankAfter.2.1 24 = .ok (.ifCond .eq 37, 3) := by decide +kernel
theorem d_X5_rankAfter_27 : decode mi_X5_rankAfter.2.1 27 = .ok (.aload_n 0, 1) := by decide +kernel
theorem d_X5_rankAfter_28 : decode mi_X5_rankAfter.2.1 28 = .ok (.iload 5, 2) := by decide +kernel
theorem d_X5_rankAfter_30 : decode mi_X5_rankAfter.2.1 30 = .ok (.iload_n 1, 1) := by decide +kernel
theorem d_X5_rankAfter_31 : decode mi_X5_rankAfter.2.1 31 = .ok (.iload_n 2, 1) := by decide +kernel
theorem d_X5_rankAfter_32 : decode mi_X5_rankAfter.2.1 32 = .ok (.invokevirtual 47, 3) := by decide +kernel
theorem d_X5_rankAfter_35 : decode mi_X5_rankAfter.2.1 35 = .ok (.istore 6, 2) := by decide +kernel
theorem d_X5_rankAfter_37 : decode mi_X5_rankAfter.2.1 37 = .ok (.iload 6, 2) := by decide +kernel
theorem d_X5_rankAfter_39 : decode mi_X5_rankAfter.2.1 39 = .ok (.iload_n 3, 1) := by decide +kernel
theorem d_X5_rankAfter_40 : decode mi_X5_rankAfter.2.1 40 = .ok (.if_icmp .le 21, 3) := by decide +kernel
theorem d_X5_rankAfter_43 : decode mi_X5_rankAfter.2.1 43 = .ok (.iload 4, 2) := by decide +kernel
theorem d_X5_rankAfter_45 : decode mi_X5_rankAfter.2.1 45 = .ok (.bipush (-4), 2) := by decide +kernel
theorem d_X5_rankAfter_47 : decode mi_X5_rankAfter.2.1 47 = .ok (.if_icmp .eq 10, 3) := by decide +kernel
theorem d_X5_rankAfter_50 : decode mi_X5_rankAfter.2.1 50 = .ok (.iload 6, 2) := by decide +kernel
theorem d_X5_rankAfter_52 : decode mi_X5_rankAfter.2.1 52 = .ok (.iload 4, 2) := by decide +kernel
theorem d_X5_rankAfter_54 : decode mi_X5_rankAfter.2.1 54 = .ok (.if_icmp .ge 7, 3) := by decide +kernel
theorem d_X5_rankAfter_57 : decode mi_X5_rankAfter.2.1 57 = .ok (.iload 6, 2) := by decide +kernel
theorem d_X5_rankAfter_59 : decode mi_X5_rankAfter.2.1 59 = .ok (.istore 4, 2) := by decide +kernel
theorem d_X5_rankAfter_61 : decode mi_X5_rankAfter.2.1 61 = .ok (.iinc 5 1, 3) := by decide +kernel
theorem d_X5_rankAfter_64 : decode mi_X5_rankAfter.2.1 64 = .ok (.goto (-57), 3) := by decide +kernel
theorem d_X5_rankAfter_67 : decode mi_X5_rankAfter.2.1 67 = .ok (.iload 4, 2) := by decide +kernel
theorem d_X5_rankAfter_69 : decode mi_X5_rankAfter.2.1 69 = .ok (.ireturn, 1) := by decide +kernel
theorem cw_X5_43 : CV RX5 43 mi_X5_counts 3 := by unfold CV; decide +kernel
theorem cw_X5_47 : CV RX5 47 mi_X5_rankOf 3 := by unfold CV; decide +kernel
def f_X5_rankAfter_61 (K7 : Int32 → Int32 → Int32 → Int32 → Int32 → SS → Option (Int32 × SS)) (v1 : Int32) (v2 : Int32) (v3 : Int32) (v4 : Int32) (v5 : Int32) (σ : SS) : Option (Int32 × SS) := lt_ (v5 + (1 : Int32)) (fun x1 => K7 v1 v2 v3 v4 x1 σ)
set_option maxRecDepth 20000 in
theorem t_X5_rankAfter_61 {d : Nat} {X : MX} {Y : MY} {b : Nat × Nat} {r : Int32} {σ' : SS} {K7 : Int32 → Int32 → Int32 → Int32 → Int32 → SS → Option (Int32 × SS)} {v1 : Int32} {v2 : Int32} {v3 : Int32} {v4 : Int32} {v5 : Int32} (hK7 : ∀ (v1 : Int32) (v2 : Int32) (v3 : Int32) (v4 : Int32) (v5 : Int32) (σ : SS), K7 v1 v2 v3 v4 v5 σ = some (r, σ') → WM (d + 3) X Y b mi_X5_rankAfter 7 [some (vR 7 0), some (vI v1), some (vI v2), some (vI v3), some (vI v4), some (vI v5), none] [] σ (some (vI r), σ')) {σ : SS} (h : f_X5_rankAfter_61 K7 v1 v2 v3 v4 v5 σ = some (r, σ')) : WM (d + 3) X Y b mi_X5_rankAfter 61 [some (vR 7 0), some (vI v1), some (vI v2), some (vI v3), some (vI v4), some (vI v5), none] [] σ (some (vI r), σ') := by
  rw [f_X5_rankAfter_61] at h
  refine l_iinc (pc' := 64) d_X5_rankAfter_61 rfl ci_1 rfl rfl rfl h (fun x1 h => ?_)
  refine r_goto (pc' := 7) d_X5_rankAfter_64 rfl ?_
  exact WM.drop [] rfl (hK7 _ _ _ _ _ _ h)
def f_X5_rankAfter_57 (K7 : Int32 → Int32 → Int32 → Int32 → Int32 → SS → Option (Int32 × SS)) (v1 : Int32) (v2 : Int32) (v3 : Int32) (v5 : Int32) (v6 : Int32) (σ : SS) : Option (Int32 × SS) := f_X5_rankAfter_61 K7 v1 v2 v3 v6 v5 σ
set_option maxRecDepth 20000 in
theorem t_X5_rankAfter_57 {d : Nat} {X : MX} {Y : MY} {b : Nat × Nat} {r : Int32} {σ' : SS} {K7 : Int32 → Int32 → Int32 → Int32 → Int32 → SS → Option (Int32 × SS)} {v1 : Int32} {v2 : Int32} {v3 : Int32} {v5 : Int32} {v6 : Int32} (hK7 : ∀ (v1 : Int32) (v2 : Int32) (v3 : Int32) (v4 : Int32) (v5 : Int32) (σ : SS), K7 v1 v2 v3 v4 v5 σ = some (r, σ') → WM (d + 3) X Y b mi_X5_rankAfter 7 [some (vR 7 0), some (vI v1), some (vI v2), some (vI v3), some (vI v4), some (vI v5), none] [] σ (some (vI r), σ')) {σ : SS} (h : f_X5_rankAfter_57 K7 v1 v2 v3 v5 v6 σ = some (r, σ')) : WM (d + 3) X Y b mi_X5_rankAfter 57 [some (vR 7 0), some (vI v1), some (vI v2), some (vI v3), none, some (vI v5), some (vI v6)] [] σ (some (vI r), σ') := by
  rw [f_X5_rankAfter_57] at h
  refine r_iload (pc' := 59) d_X5_rankAfter_57 rfl rfl ?_
  refine r_istore (pc' := 61) d_X5_rankAfter_59 rfl rfl rfl ?_
  exact WM.drop [6] rfl (t_X5_rankAfter_61 hK7 h)
def f_X5_rankAfter_7 : Nat → Int32 → Int32 → Int32 → Int32 → Int32 → SS → Option (Int32 × SS)
  | 0, _, _, _, _, _, _ => none
  | n + 1, v1, v2, v3, v4, v5, σ => if (σ.1 7 0 4) ≤ v5 then (some (v4, σ)) else (cal (f_X5_counts v5 v1 v2 σ) (fun x2 s1 => if x2 = 0 then (f_X5_rankAfter_61 (f_X5_rankAfter_7 n) v1 v2 v3 v4 v5 s1) else (cal (f_X5_rankOf v5 v1 v2 s1) (fun x4 s3 => if x4 ≤ v3 then (f_X5_rankAfter_61 (f_X5_rankAfter_7 n) v1 v2 v3 v4 v5 s3) else (if v4 = (-4 : Int32) then (f_X5_rankAfter_57 (f_X5_rankAfter_7 n) v1 v2 v3 v5 x4 s3) else (if v4 ≤ x4 then (f_X5_rankAfter_61 (f_X5_rankAfter_7 n) v1 v2 v3 v4 v5 s3) else (f_X5_rankAfter_57 (f_X5_rankAfter_7 n) v1 v2 v3 v5 x4 s3)))))))
set_option maxRecDepth 20000 in
theorem t_X5_rankAfter_7 {d : Nat} {X : MX} {Y : MY} {b : Nat × Nat} {r : Int32} {σ' : SS} : ∀ (n : Nat) (v1 : Int32) (v2 : Int32) (v3 : Int32) (v4 : Int32) (v5 : Int32) (σ : SS), f_X5_rankAfter_7 n v1 v2 v3 v4 v5 σ = some (r, σ') → WM (d + 3) X Y b mi_X5_rankAfter 7 [some (vR 7 0), some (vI v1), some (vI v2), some (vI v3), some (vI v4), some (vI v5), none] [] σ (some (vI r), σ') := by
  intro n
  induction n with
  | zero => intro _ _ _ _ _ σ h; cases h
  | succ n ih =>
    intro v1 v2 v3 v4 v5 σ h
    rw [f_X5_rankAfter_7] at h
    refine r_iload (pc' := 9) d_X5_rankAfter_7 rfl rfl ?_
    refine r_aload_n (pc' := 10) d_X5_rankAfter_9 rfl rfl rfl ?_
    refine r_get (v := vI _) (pc' := 13) fl_X5_28 d_X5_rankAfter_10 rfl rfl (fun _ => trivial) rfl ?_
    refine r_icmp_ge (pcT := 67) (pc' := 16) d_X5_rankAfter_13 rfl rfl h (fun _ h => ?_) (fun _ h => ?_)
    · refine r_iload (pc' := 69) d_X5_rankAfter_67 rfl rfl ?_
      exact r_iret d_X5_rankAfter_69 rfl h
    · refine r_aload_n (pc' := 17) d_X5_rankAfter_16 rfl rfl rfl ?_
      refine r_iload (pc' := 19) d_X5_rankAfter_17 rfl rfl ?_
      refine r_iload_n (pc' := 20) d_X5_rankAfter_19 rfl rfl rfl ?_
      refine r_iload_n (pc' := 21) d_X5_rankAfter_20 rfl rfl rfl ?_
      refine v3_i (mc := mi_X5_counts) (bc := (0, 0)) (b' := _) (pc' := 24) cw_X5_43 d_X5_rankAfter_21 rfl rfl rfl (Nat.zero_add _).symm (Nat.zero_add _).symm rfl h (fun _ _ e => t_X5_counts e) (fun x2 s1 h => ?_)
      refine r_if_eq (pcT := 61) (pc' := 27) d_X5_rankAfter_24 rfl rfl h (fun _ h => ?_) (fun _ h => ?_)
      · exact WM.drop [] rfl (t_X5_rankAfter_61 ih h)
      · refine r_aload_n (pc' := 28) d_X5_rankAfter_27 rfl rfl rfl ?_
        refine r_iload (pc' := 30) d_X5_rankAfter_28 rfl rfl ?_
        refine r_iload_n (pc' := 31) d_X5_rankAfter_30 rfl rfl rfl ?_
        refine r_iload_n (pc' := 32) d_X5_rankAfter_31 rfl rfl rfl ?_
        refine v3_i (mc := mi_X5_rankOf) (bc := (0, 0)) (b' := _) (pc' := 35) cw_X5_47 d_X5_rankAfter_32 rfl rfl rfl (Nat.zero_add _).symm (Nat.zero_add _).symm rfl h (fun _ _ e => t_X5_rankOf e) (fun x4 s3 h => ?_)
        refine r_istore (pc' := 37) d_X5_rankAfter_35 rfl rfl rfl ?_
        refine r_iload (pc' := 39) d_X5_rankAfter_37 rfl rfl ?_
        refine r_iload_n (pc' := 40) d_X5_rankAfter_39 rfl rfl rfl ?_
        refine r_icmp_le (pcT := 61) (pc' := 43) d_X5_rankAfter_40 rfl rfl h (fun _ h => ?_) (fun _ h => ?_)
        · exact WM.drop [6] rfl (t_X5_rankAfter_61 ih h)
        · refine r_iload (pc' := 45) d_X5_rankAfter_43 rfl rfl ?_
          refine r_bipush (pc' := 47) d_X5_rankAfter_45 cb_m4 rfl ?_
          refine r_icmp_eq (pcT := 57) (pc' := 50) d_X5_rankAfter_47 rfl rfl h (fun _ h => ?_) (fun _ h => ?_)
          · exact WM.drop [4] rfl (t_X5_rankAfter_57 ih h)
          · refine r_iload (pc' := 52) d_X5_rankAfter_50 rfl rfl ?_
            refine r_iload (pc' := 54) d_X5_rankAfter_52 rfl rfl ?_
            refine r_icmp_ge (pcT := 61) (pc' := 57) d_X5_rankAfter_54 rfl rfl h (fun _ h => ?_) (fun _ h => ?_)
            · exact WM.drop [6] rfl (t_X5_rankAfter_61 ih h)
            · exact WM.drop [4] rfl (t_X5_rankAfter_57 ih h)
def f_X5_rankAfter (v1 : Int32) (v2 : Int32) (v3 : Int32) (σ : SS) : Option (Int32 × SS) := f_X5_rankAfter_7 FU v1 v2 v3 (-4 : Int32) (0 : Int32) σ
set_option maxRecDepth 20000 in
theorem t_X5_rankAfter {d : Nat} {b : Nat × Nat} {v1 : Int32} {v2 : Int32} {v3 : Int32} {σ : SS} {r : Int32} {σ' : SS} (h : f_X5_rankAfter v1 v2 v3 σ = some (r, σ')) : MM (d + 3) b mi_X5_rankAfter [vR 7 0, vI v1, vI v2, vI v3] σ (some (vI r), σ') := by
  refine MM.of (lv := [some (vR 7 0), some (vI v1), some (vI v2), some (vI v3), none, none, none]) (by decide +kernel) rfl rfl (fun X Y => ?_)
  rw [f_X5_rankAfter] at h
  refine r_bipush (pc' := 2) d_X5_rankAfter_0 cb_m4 rfl ?_
  refine r_istore (pc' := 4) d_X5_rankAfter_2 rfl rfl rfl ?_
  refine r_iconst (pc' := 5) d_X5_rankAfter_4 ci_0 rfl ?_
  refine r_istore (pc' := 7) d_X5_rankAfter_5 rfl rfl rfl ?_
  exact WM.drop [] rfl (t_X5_rankAfter_7 _ _ _ _ _ _ _ h)
/-! OctagonYard$Rules.inOrder(III)I -/
def mi_X5_inOrder : MI := (yX5_inOrder, cX5_inOrder, 6, (some .int))
theorem d_X5_inOrder_0 : decode mi_X5_inOrder.2.1 0 = .ok (.iload_n 3, 1) := by decide +kernel
theorem d_X5_inOrder_1 : decode mi_X5_inOrder.2.1 1 = .ok (.aload_n 0, 1) := by decide +kernel
theorem d_X5_inOrder_2 : decode mi_X5_inOrder.2.1 2 = .ok (.getfield 28, 3) := by decide +kernel
theorem d_X5_inOrder_5 : decode mi_X5_inOrder.2.1 5 = .ok (.if_icmp .lt 6, 3) := by decide +kernel
theorem d_X5_inOrder_8 : decode mi_X5_inOrder.2.1 8 = .ok (.bipush (-4), 2) := by decide +kernel
theorem d_X5_inOrder_10 : decode mi_X5_inOrder.2.1 10 = .ok (.ireturn, 1) := by decide +kernel
theorem d_X5_inOrder_11 : decode mi_X5_inOrder.2.1 11 = .ok (.iconst (-1), 1) := by decide +kernel
theorem d_X5_inOrder_12 : decode mi_X5_inOrder.2.1 12 = .ok (.istore 4, 2) := by decide +kernel
theorem d_X5_inOrder_14 : decode mi_X5_inOrder.2.1 14 = .ok (.iconst 0, 1) := by decide +kernel
theorem d_X5_inOrder_15 : decode mi_X5_inOrder.2.1 15 = .ok (.istore 5, 2) := by decide +kernel
theorem d_X5_inOrder_17 : decode mi_X5_inOrder.2.1 17 = .ok (.iload 5, 2) := by decide +kernel
theorem d_X5_inOrder_19 : decode mi_X5_inOrder.2.1 19 = .ok (.iload_n 3, 1) := by decide +kernel
theorem d_X5_inOrder_20 : decode mi_X5_inOrder.2.1 20 = .ok (.if_icmp .gt 29, 3) := by decide +kernel
theorem d_X5_inOrder_23 : decode mi_X5_inOrder.2.1 23 = .ok (.aload_n 0, 1) := by decide +kernel
theorem d_X5_inOrder_24 : decode mi_X5_inOrder.2.1 24 = .ok (.iload_n 1, 1) := by decide +kernel
theorem d_X5_inOrder_25 : decode mi_X5_inOrder.2.1 25 = .ok (.iload_n 2, 1) := by decide +kernel
theorem d_X5_inOrder_26 : decode mi_X5_inOrder.2.1 26 = .ok (.iload 4, 2) := by decide +kernel
theorem d_X5_inOrder_28 : decode mi_X5_inOrder.2.1 28 = .ok (.invokevirtual 31, 3) := by decide +kernel
theorem d_X5_inOrder_31 : decode mi_X5_inOrder.2.1 31 = .ok (.istore 4, 2) := by decide +kernel
theorem d_X5_inOrder_33 : decode mi_X5_inOrder.2.1 33 = .ok (.iload 4, 2) := by decide +kernel
theorem d_X5_inOrder_35 : decode mi_X5_inOrder.2.1 35 = .ok (.bipush (-4), 2) := by decide +kernel
theorem d_X5_inOrder_37 : decode mi_X5_inOrder.2.1 37 = .ok (.if_icmp .ne 6, 3) := by decide +kernel
theorem d_X5_inOrder_40 : decode mi_X5_inOrder.2.1 40 = .ok (.bipush (-4), 2) := by decide +kernel
theorem d_X5_inOrder_42 : decode mi_X5_inOrder.2.1 42 = .ok (.ireturn, 1) := by decide +kernel
theorem d_X5_inOrder_43 : decode mi_X5_inOrder.2.1 43 = .ok (.iinc 5 1, 3) := by decide +kernel
theorem d_X5_inOrder_46 : decode mi_X5_inOrder.2.1 46 = .ok (.goto (-29), 3) := by decide +kernel
theorem d_X5_inOrder_49 : decode mi_X5_inOrder.2.1 49 = .ok (.aload_n 0, 1) := by decide +kernel
theorem d_X5_inOrder_50 : decode mi_X5_inOrder.2.1 50 = .ok (.iload 4, 2) := by decide +kernel
theorem d_X5_inOrder_52 : decode mi_X5_inOrder.2.1 52 = .ok (.invokevirtual 35, 3) := by decide +kernel
theorem d_X5_inOrder_55 : decode mi_X5_inOrder.2.1 55 = .ok (.ireturn, 1) := by decide +kernel
theorem cw_X5_31 : CV RX5 31 mi_X5_rankAfter 3 := by unfold CV; decide +kernel
theorem cw_X5_35 : CV RX5 35 mi_X5_numberOf 1 := by unfold CV; decide +kernel
def f_X5_inOrder_49 (v4 : Int32) (σ : SS) : Option (Int32 × SS) := cal (f_X5_numberOf v4 σ) (fun x2 s1 => some (x2, s1))
set_option maxRecDepth 20000 in
theorem t_X5_inOrder_49 {d : Nat} {X : MX} {Y : MY} {b : Nat × Nat} {r : Int32} {σ' : SS} {v4 : Int32} {σ : SS} (h : f_X5_inOrder_49 v4 σ = some (r, σ')) : WM (d + 4) X Y b mi_X5_inOrder 49 [some (vR 7 0), none, none, none, some (vI v4), none] [] σ (some (vI r), σ') := by
  rw [f_X5_inOrder_49] at h
  refine r_aload_n (pc' := 50) d_X5_inOrder_49 rfl rfl rfl ?_
  refine r_iload (pc' := 52) d_X5_inOrder_50 rfl rfl ?_
  refine v1_i (mc := mi_X5_numberOf) (bc := (0, 0)) (b' := _) (pc' := 55) cw_X5_35 d_X5_inOrder_52 rfl rfl rfl (Nat.zero_add _).symm (Nat.zero_add _).symm rfl h (fun _ _ e => t_X5_numberOf e) (fun x2 s1 h => ?_)
  exact r_iret d_X5_inOrder_55 rfl h
def f_X5_inOrder_17 : Nat → Int32 → Int32 → Int32 → Int32 → Int32 → SS → Option (Int32 × SS)
  | 0, _, _, _, _, _, _ => none
  | n + 1, v1, v2, v3, v4, v5, σ => if v3 < v5 then (f_X5_inOrder_49 v4 σ) else (cal (f_X5_rankAfter v1 v2 v4 σ) (fun x2 s1 => if x2 = (-4 : Int32) then (some ((-4 : Int32), s1)) else (lt_ (v5 + (1 : Int32)) (fun x3 => f_X5_inOrder_17 n v1 v2 v3 x2 x3 s1))))
set_option maxRecDepth 20000 in
theorem t_X5_inOrder_17 {d : Nat} {X : MX} {Y : MY} {b : Nat × Nat} {r : Int32} {σ' : SS} : ∀ (n : Nat) (v1 : Int32) (v2 : Int32) (v3 : Int32) (v4 : Int32) (v5 : Int32) (σ : SS), f_X5_inOrder_17 n v1 v2 v3 v4 v5 σ = some (r, σ') → WM (d + 4) X Y b mi_X5_inOrder 17 [some (vR 7 0), some (vI v1), some (vI v2), some (vI v3), some (vI v4), some (vI v5)] [] σ (some (vI r), σ') := by
  intro n
  induction n with
  | zero => intro _ _ _ _ _ σ h; cases h
  | succ n ih =>
    intro v1 v2 v3 v4 v5 σ h
    rw [f_X5_inOrder_17] at h
    refine r_iload (pc' := 19) d_X5_inOrder_17 rfl rfl ?_
    refine r_iload_n (pc' := 20) d_X5_inOrder_19 rfl rfl rfl ?_
    refine r_icmp_gt (pcT := 49) (pc' := 23) d_X5_inOrder_20 rfl rfl h (fun _ h => ?_) (fun _ h => ?_)
    · exact WM.drop [1, 2, 3, 5] rfl (t_X5_inOrder_49 h)
    · refine r_aload_n (pc' := 24) d_X5_inOrder_23 rfl rfl rfl ?_
      refine r_iload_n (pc' := 25) d_X5_inOrder_24 rfl rfl rfl ?_
      refine r_iload_n (pc' := 26) d_X5_inOrder_25 rfl rfl rfl ?_
      refine r_iload (pc' := 28) d_X5_inOrder_26 rfl rfl ?_
      refine v3_i (mc := mi_X5_rankAfter) (bc := (0, 0)) (b' := _) (pc' := 31) cw_X5_31 d_X5_inOrder_28 rfl rfl rfl (Nat.zero_add _).symm (Nat.zero_add _).symm rfl h (fun _ _ e => t_X5_rankAfter e) (fun x2 s1 h => ?_)
      refine r_istore (pc' := 33) d_X5_inOrder_31 rfl rfl rfl ?_
      refine r_iload (pc' := 35) d_X5_inOrder_33 rfl rfl ?_
      refine r_bipush (pc' := 37) d_X5_inOrder_35 cb_m4 rfl ?_
      refine r_icmp_ne (pcT := 43) (pc' := 40) d_X5_inOrder_37 rfl rfl h (fun _ h => ?_) (fun _ h => ?_)
      · refine r_bipush (pc' := 42) d_X5_inOrder_40 cb_m4 rfl ?_
        exact r_iret d_X5_inOrder_42 rfl h
      · refine l_iinc (pc' := 46) d_X5_inOrder_43 rfl ci_1 rfl rfl rfl h (fun x3 h => ?_)
        refine r_goto (pc' := 17) d_X5_inOrder_46 rfl ?_
        exact WM.drop [] rfl (ih _ _ _ _ _ _ h)
def f_X5_inOrder (v1 : Int32) (v2 : Int32) (v3 : Int32) (σ : SS) : Option (Int32 × SS) := if v3 < (σ.1 7 0 4) then (f_X5_inOrder_17 FU v1 v2 v3 (-1 : Int32) (0 : Int32) σ) else (some ((-4 : Int32), σ))
set_option maxRecDepth 20000 in
theorem t_X5_inOrder {d : Nat} {b : Nat × Nat} {v1 : Int32} {v2 : Int32} {v3 : Int32} {σ : SS} {r : Int32} {σ' : SS} (h : f_X5_inOrder v1 v2 v3 σ = some (r, σ')) : MM (d + 4) b mi_X5_inOrder [vR 7 0, vI v1, vI v2, vI v3] σ (some (vI r), σ') := by
  refine MM.of (lv := [some (vR 7 0), some (vI v1), some (vI v2), some (vI v3), none, none]) (by decide +kernel) rfl rfl (fun X Y => ?_)
  rw [f_X5_inOrder] at h
  refine r_iload_n (pc' := 1) d_X5_inOrder_0 rfl rfl rfl ?_
  refine r_aload_n (pc' := 2) d_X5_inOrder_1 rfl rfl rfl ?_
  refine r_get (v := vI _) (pc' := 5) fl_X5_28 d_X5_inOrder_2 rfl rfl (fun _ => trivial) rfl ?_
  refine r_icmp_lt (pcT := 11) (pc' := 8) d_X5_inOrder_5 rfl rfl h (fun _ h => ?_) (fun _ h => ?_)
  · refine r_iconst (pc' := 12) d_X5_inOrder_11 ci_m1 rfl ?_
    refine r_istore (pc' := 14) d_X5_inOrder_12 rfl rfl rfl ?_
    refine r_iconst (pc' := 15) d_X5_inOrder_14 ci_0 rfl ?_
    refine r_istore (pc' := 17) d_X5_inOrder_15 rfl rfl rfl ?_
    exact WM.drop [] rfl (t_X5_inOrder_17 _ _ _ _ _ _ _ h)
  · refine r_bipush (pc' := 10) d_X5_inOrder_8 cb_m4 rfl ?_
    exact r_iret d_X5_inOrder_10 rfl h
/-! OctagonYard$Rules.decide(II)I -/
def mi_X5_decide : MI := (yX5_decide, cX5_decide, 9, (some .int))
theorem d_X5_decide_0 : decode mi_X5_decide.2.1 0 = .ok (.aload_n 0, 1) := by decide +kernel
theorem d_X5_decide_1 : decode mi_X5_decide.2.1 1 = .ok (.iload_n 1, 1) := by decide +kernel
theorem d_X5_decide_2 : decode mi_X5_decide.2.1 2 = .ok (.iload_n 2, 1) := by decide +kernel
theorem d_X5_decide_3 : decode mi_X5_decide.2.1 3 = .ok (.iconst (-1), 1) := by decide +kernel
theorem d_X5_decide_4 : decode mi_X5_decide.2.1 4 = .ok (.invokevirtual 31, 3) := by decide +kernel
theorem d_X5_decide_7 : decode mi_X5_decide.2.1 7 = .ok (.istore_n 3, 1) := by decide +kernel
theorem d_X5_decide_8 : decode mi_X5_decide.2.1 8 = .ok (.iload_n 3, 1) := by decide +kernel
theorem d_X5_decide_9 : decode mi_X5_decide.2.1 9 = .ok (.bipush (-4), 2) := by decide +kernel
theorem d_X5_decide_11 : decode mi_X5_decide.2.1 11 = .ok (.if_icmp .ne 6, 3) := by decide +kernel
theorem d_X5_decide_14 : decode mi_X5_decide.2.1 14 = .ok (.bipush (-4), 2) := by decide +kernel
theorem d_X5_decide_16 : decode mi_X5_decide.2.1 16 = .ok (.ireturn, 1) := by decide +kernel
theorem d_X5_decide_17 : decode mi_X5_decide.2.1 17 = .ok (.aload_n 0, 1) := by decide +kernel
theorem d_X5_decide_18 : decode mi_X5_decide.2.1 18 = .ok (.iload_n 3, 1) := by decide +kernel
theorem d_X5_decide_19 : decode mi_X5_decide.2.1 19 = .ok (.invokevirtual 35, 3) := by decide +kernel
theorem d_X5_decide_22 : decode mi_X5_decide.2.1 22 = .ok (.istore 4, 2) := by decide +kernel
theorem d_X5_decide_24 : decode mi_X5_decide.2.1 24 = .ok (.iload_n 1, 1) := by decide +kernel
theorem d_X5_decide_25 : decode mi_X5_decide.2.1 25 = .ok (.aload_n 0, 1) := by decide +kernel
theorem d_X5_decide_26 : decode mi_X5_decide.2.1 26 = .ok (.getfield 11, 3) := by decide +kernel
theorem d_X5_decide_29 : decode mi_X5_decide.2.1 29 = .ok (.iload 4, 2) := by decide +kernel
theorem d_X5_decide_31 : decode mi_X5_decide.2.1 31 = .ok (.iaload, 1) := by decide +kernel
theorem d_X5_decide_32 : decode mi_X5_decide.2.1 32 = .ok (.invokestatic 39, 3) := by decide +kernel
theorem d_X5_decide_35 : decode mi_X5_decide.2.1 35 = .ok (.istore 5, 2) := by decide +kernel
theorem d_X5_decide_37 : decode mi_X5_decide.2.1 37 = .ok (.iload 5, 2) := by decide +kernel
theorem d_X5_decide_39 : decode mi_X5_decide.2.1 39 = .ok (.iload_n 2, 1) := by decide +kernel
theorem d_X5_decide_40 : decode mi_X5_decide.2.1 40 = .ok (.aload_n 0, 1) := by decide +kernel
theorem d_X5_decide_41 : decode mi_X5_decide.2.1 41 = .ok (.getfield 15, 3) := by decide +kernel
theorem d_X5_decide_44 : decode mi_X5_decide.2.1 44 = .ok (.iload 4, 2) := by decide +kernel
theorem d_X5_decide_46 : decode mi_X5_decide.2.1 46 = .ok (.iaload, 1) := by decide +kernel
theorem d_X5_decide_47 : decode mi_X5_decide.2.1 47 = .ok (.invokestatic 39, 3) := by decide +kernel
theorem d_X5_decide_50 : decode mi_X5_decide.2.1 50 = .ok (.iadd, 1) := by decide +kernel
theorem d_X5_decide_51 : decode mi_X5_decide.2.1 51 = .ok (.istore 6, 2) := by decide +kernel
theorem d_X5_decide_53 : decode mi_X5_decide.2.1 53 = .ok (.iconst 0, 1) := by decide +kernel
theorem d_X5_decide_54 : decode mi_X5_decide.2.1 54 = .ok (.istore 7, 2) := by decide +kernel
theorem d_X5_decide_56 : decode mi_X5_decide.2.1 56 = .ok (.iload 7, 2) := by decide +kernel
theorem d_X5_decide_58 : decode mi_X5_decide.2.1 58 = .ok (.aload_n 0, 1) := by decide +kernel
theorem d_X5_decide_59 : decode mi_X5_decide.2.1 59 = .ok (.getfield 28, 3) := by decide +kernel
theorem d_X5_decide_62 : decode mi_X5_decide.2.1 62 = .ok (.if_icmp .ge 62, 3) := by decide +kernel
theorem d_X5_decide_65 : decode mi_X5_decide.2.1 65 = .ok (.aload_n 0, 1) := by decide +kernel
theorem d_X5_decide_66 : decode mi_X5_decide.2.1 66 = .ok (.iload 7, 2) := by decide +kernel
theorem d_X5_decide_68 : decode mi_X5_decide.2.1 68 = .ok (.iload_n 1, 1) := by decide +kernel
theorem d_X5_decide_69 : decode mi_X5_decide.2.1 69 = .ok (.iload_n 2, 1) := by decide +kernel
theorem d_X5_decide_70 : decode mi_X5_decide.2.1 70 = .ok (.invokevirtual 43, 3) := by decide +kernel
theorem d_X5_decide_73 : decode mi_X5_decide.2.1 73 = .ok (.ifCond .eq 45, 3) := by decide +kernel
theorem d_X5_decide_76 : decode mi_X5_decide.2.1 76 = .ok (.iload_n 1, 1) := by decide +kernel
theorem d_X5_decide_77 : decode mi_X5_decide.2.1 77 = .ok (.aload_n 0, 1) := by decide +kernel
theorem d_X5_decide_78 : decode mi_X5_decide.2.1 78 = .ok (.getfield 11, 3) := by decide +kernel
theorem d_X5_decide_81 : decode mi_X5_decide.2.1 81 = .ok (.iload 7, 2) := by decide +kernel
theorem d_X5_decide_83 : decode mi_X5_decide.2.1 83 = .ok (.iaload, 1) := by decide +kernel
theorem d_X5_decide_84 : decode mi_X5_decide.2.1 84 = .ok (.invokestatic 39, 3) := by decide +kernel
theorem d_X5_decide_87 : decode mi_X5_decide.2.1 87 = .ok (.istore 8, 2) := by decide +kernel
theorem d_X5_decide_89 : decode mi_X5_decide.2.1 89 = .ok (.iload 8, 2) := by decide +kernel
theorem d_X5_decide_91 : decode mi_X5_decide.2.1 91 = .ok (.iload 5, 2) := by decide +kernel
theorem d_X5_decide_93 : decode mi_X5_decide.2.1 93 = .ok (.if_icmp .eq 25, 3) := by decide +kernel
theorem d_X5_decide_96 : decode mi_X5_decide.2.1 96 = .ok (.iload 8, 2) := by decide +kernel
theorem d_X5_decide_98 : decode mi_X5_decide.2.1 98 = .ok (.iload_n 2, 1) := by decide +kernel
theorem d_X5_decide_99 : decode mi_X5_decide.2.1 99 = .ok (.aload_n 0, 1) := by decide +kernel
theorem d_X5_decide_100 : decode mi_X5_decide.2.1 100 = .ok (.getfield 15, 3) := by decide +kernel
theorem d_X5_decide_103 : decode mi_X5_decide.2.1 103 = .ok (.iload 7, 2) := by decide +kernel
theorem d_X5_decide_105 : decode mi_X5_decide.2.1 105 = .ok (.iaload, 1) := by decide +kernel
theorem d_X5_decide_106 : decode mi_X5_decide.2.1 106 = .ok (.invokestatic 39, 3) := by decide +kernel
theorem d_X5_decide_109 : decode mi_X5_decide.2.1 109 = .ok (.iadd, 1) := by decide +kernel
theorem d_X5_decide_110 : decode mi_X5_decide.2.1 110 = .ok (.iload 6, 2) := by decide +kernel
theorem d_X5_decide_112 : decode mi_X5_decide.2.1 112 = .ok (.if_icmp .ne 6, 3) := by decide +kernel
theorem d_X5_decide_115 : decode mi_X5_decide.2.1 115 = .ok (.bipush (-5), 2) := by decide +kernel
theorem d_X5_decide_117 : decode mi_X5_decide.2.1 117 = .ok (.ireturn, 1) := by decide +kernel
theorem d_X5_decide_118 : decode mi_X5_decide.2.1 118 = .ok (.iinc 7 1, 3) := by decide +kernel
theorem d_X5_decide_121 : decode mi_X5_decide.2.1 121 = .ok (.goto (-65), 3) := by decide +kernel
theorem d_X5_decide_124 : decode mi_X5_decide.2.1 124 = .ok (.iload 4, 2) := by decide +kernel
theorem d_X5_decide_126 : decode mi_X5_decide.2.1 126 = .ok (.ireturn, 1) := by decide +kernel
theorem cb_m5 : (Int8.ofInt (-5)).toInt32 = -5 := by decide
def f_X5_decide_118 (K56 : Int32 → Int32 → Int32 → Int32 → Int32 → Int32 → SS → Option (Int32 × SS)) (v1 : Int32) (v2 : Int32) (v4 : Int32) (v5 : Int32) (v6 : Int32) (v7 : Int32) (σ : SS) : Option (Int32 × SS) := lt_ (v7 + (1 : Int32)) (fun x1 => K56 v1 v2 v4 v5 v6 x1 σ)
set_option maxRecDepth 20000 in
theorem t_X5_decide_118 {d : Nat} {X : MX} {Y : MY} {b : Nat × Nat} {r : Int32} {σ' : SS} {K56 : Int32 → Int32 → Int32 → Int32 → Int32 → Int32 → SS → Option (Int32 × SS)} {v1 : Int32} {v2 : Int32} {v4 : Int32} {v5 : Int32} {v6 : Int32} {v7 : Int32} (hK56 : ∀ (v1 : Int32) (v2 : Int32) (v4 : Int32) (v5 : Int32) (v6 : Int32) (v7 : Int32) (σ : SS), K56 v1 v2 v4 v5 v6 v7 σ = some (r, σ') → WM (d + 4) X Y b mi_X5_decide 56 [some (vR 7 0), some (vI v1), some (vI v2), none, some (vI v4), some (vI v5), some (vI v6), some (vI v7), none] [] σ (some (vI r), σ')) {σ : SS} (h : f_X5_decide_118 K56 v1 v2 v4 v5 v6 v7 σ = some (r, σ')) : WM (d + 4) X Y b mi_X5_decide 118 [some (vR 7 0), some (vI v1), some (vI v2), none, some (vI v4), some (vI v5), some (vI v6), some (vI v7), none] [] σ (some (vI r), σ') := by
  rw [f_X5_decide_118] at h
  refine l_iinc (pc' := 121) d_X5_decide_118 rfl ci_1 rfl rfl rfl h (fun x1 h => ?_)
  refine r_goto (pc' := 56) d_X5_decide_121 rfl ?_
  exact WM.drop [] rfl (hK56 _ _ _ _ _ _ _ h)
def f_X5_decide_56 : Nat → Int32 → Int32 → Int32 → Int32 → Int32 → Int32 → SS → Option (Int32 × SS)
  | 0, _, _, _, _, _, _, _ => none
  | n + 1, v1, v2, v4, v5, v6, v7, σ => if (σ.1 7 0 4) ≤ v7 then (some (v4, σ)) else (cal (f_X5_counts v7 v1 v2 σ) (fun x2 s1 => if x2 = 0 then (f_X5_decide_118 (f_X5_decide_56 n) v1 v2 v4 v5 v6 v7 s1) else (chk (inr v7 40) (cal (f_X5_stepsTo v1 (s1.1 8 0 (ix v7)) s1) (fun x4 s3 => if x4 = v5 then (f_X5_decide_118 (f_X5_decide_56 n) v1 v2 v4 v5 v6 v7 s3) else (chk (inr v7 40) (cal (f_X5_stepsTo v2 (s3.1 9 0 (ix v7)) s3) (fun x6 s5 => if (x4 + x6) = v6 then (some ((-5 : Int32), s5)) else (f_X5_decide_118 (f_X5_decide_56 n) v1 v2 v4 v5 v6 v7 s5)))))))))
set_option maxRecDepth 20000 in
theorem t_X5_decide_56 {d : Nat} {X : MX} {Y : MY} {b : Nat × Nat} {r : Int32} {σ' : SS} : ∀ (n : Nat) (v1 : Int32) (v2 : Int32) (v4 : Int32) (v5 : Int32) (v6 : Int32) (v7 : Int32) (σ : SS), f_X5_decide_56 n v1 v2 v4 v5 v6 v7 σ = some (r, σ') → WM (d + 4) X Y b mi_X5_decide 56 [some (vR 7 0), some (vI v1), some (vI v2), none, some (vI v4), some (vI v5), some (vI v6), some (vI v7), none] [] σ (some (vI r), σ') := by
  intro n
  induction n with
  | zero => intro _ _ _ _ _ _ σ h; cases h
  | succ n ih =>
    intro v1 v2 v4 v5 v6 v7 σ h
    rw [f_X5_decide_56] at h
    refine r_iload (pc' := 58) d_X5_decide_56 rfl rfl ?_
    refine r_aload_n (pc' := 59) d_X5_decide_58 rfl rfl rfl ?_
    refine r_get (v := vI _) (pc' := 62) fl_X5_28 d_X5_decide_59 rfl rfl (fun _ => trivial) rfl ?_
    refine r_icmp_ge (pcT := 124) (pc' := 65) d_X5_decide_62 rfl rfl h (fun _ h => ?_) (fun _ h => ?_)
    · refine r_iload (pc' := 126) d_X5_decide_124 rfl rfl ?_
      exact r_iret d_X5_decide_126 rfl h
    · refine r_aload_n (pc' := 66) d_X5_decide_65 rfl rfl rfl ?_
      refine r_iload (pc' := 68) d_X5_decide_66 rfl rfl ?_
      refine r_iload_n (pc' := 69) d_X5_decide_68 rfl rfl rfl ?_
      refine r_iload_n (pc' := 70) d_X5_decide_69 rfl rfl rfl ?_
      refine v3_i (mc := mi_X5_counts) (bc := (0, 0)) (b' := _) (pc' := 73) cw_X5_43 d_X5_decide_70 rfl rfl rfl (Nat.zero_add _).symm (Nat.zero_add _).symm rfl h (fun _ _ e => t_X5_counts e) (fun x2 s1 h => ?_)
      refine r_if_eq (pcT := 118) (pc' := 76) d_X5_decide_73 rfl rfl h (fun _ h => ?_) (fun _ h => ?_)
      · exact WM.drop [] rfl (t_X5_decide_118 ih h)
      · refine r_iload_n (pc' := 77) d_X5_decide_76 rfl rfl rfl ?_
        refine r_aload_n (pc' := 78) d_X5_decide_77 rfl rfl rfl ?_
        refine r_get (v := vR 8 _) (pc' := 81) fl_X5_11 d_X5_decide_78 rfl rfl (fun g => Or.inl ⟨rfl, g.2⟩) rfl ?_
        refine r_iload (pc' := 83) d_X5_decide_81 rfl rfl ?_
        refine r_iaload (pc' := 84) d_X5_decide_83 rfl (fun _ => rfl) rfl h (fun h => ?_)
        refine s2_i (mc := mi_X5_stepsTo) (bc := (0, 0)) (b' := _) (pc' := 87) cw_X5_39 d_X5_decide_84 rfl (Nat.zero_add _).symm (Nat.zero_add _).symm rfl h (fun _ _ e => t_X5_stepsTo e) (fun x4 s3 h => ?_)
        refine r_istore (pc' := 89) d_X5_decide_87 rfl rfl rfl ?_
        refine r_iload (pc' := 91) d_X5_decide_89 rfl rfl ?_
        refine r_iload (pc' := 93) d_X5_decide_91 rfl rfl ?_
        refine r_icmp_eq (pcT := 118) (pc' := 96) d_X5_decide_93 rfl rfl h (fun _ h => ?_) (fun _ h => ?_)
        · exact WM.drop [8] rfl (t_X5_decide_118 ih h)
        · refine r_iload (pc' := 98) d_X5_decide_96 rfl rfl ?_
          refine r_iload_n (pc' := 99) d_X5_decide_98 rfl rfl rfl ?_
          refine r_aload_n (pc' := 100) d_X5_decide_99 rfl rfl rfl ?_
          refine r_get (v := vR 9 _) (pc' := 103) fl_X5_15 d_X5_decide_100 rfl rfl (fun g => Or.inl ⟨rfl, g.2⟩) rfl ?_
          refine r_iload (pc' := 105) d_X5_decide_103 rfl rfl ?_
          refine r_iaload (pc' := 106) d_X5_decide_105 rfl (fun _ => rfl) rfl h (fun h => ?_)
          refine s2_i (mc := mi_X5_stepsTo) (bc := (0, 0)) (b' := _) (pc' := 109) cw_X5_39 d_X5_decide_106 rfl (Nat.zero_add _).symm (Nat.zero_add _).symm rfl h (fun _ _ e => t_X5_stepsTo e) (fun x6 s5 h => ?_)
          refine r_iadd (pc' := 110) d_X5_decide_109 rfl ?_
          refine r_iload (pc' := 112) d_X5_decide_110 rfl rfl ?_
          refine r_icmp_ne (pcT := 118) (pc' := 115) d_X5_decide_112 rfl rfl h (fun _ h => ?_) (fun _ h => ?_)
          · refine r_bipush (pc' := 117) d_X5_decide_115 cb_m5 rfl ?_
            exact r_iret d_X5_decide_117 rfl h
          · exact WM.drop [8] rfl (t_X5_decide_118 ih h)
def f_X5_decide (v1 : Int32) (v2 : Int32) (σ : SS) : Option (Int32 × SS) := cal (f_X5_rankAfter v1 v2 (-1 : Int32) σ) (fun x2 s1 => if x2 = (-4 : Int32) then (some ((-4 : Int32), s1)) else (cal (f_X5_numberOf x2 s1) (fun x4 s3 => chk (inr x4 40) (cal (f_X5_stepsTo v1 (s3.1 8 0 (ix x4)) s3) (fun x6 s5 => chk (inr x4 40) (cal (f_X5_stepsTo v2 (s5.1 9 0 (ix x4)) s5) (fun x8 s7 => lt_ (x6 + x8) (fun x9 => f_X5_decide_56 FU v1 v2 x4 x6 x9 (0 : Int32) s7))))))))
set_option maxRecDepth 20000 in
theorem t_X5_decide {d : Nat} {b : Nat × Nat} {v1 : Int32} {v2 : Int32} {σ : SS} {r : Int32} {σ' : SS} (h : f_X5_decide v1 v2 σ = some (r, σ')) : MM (d + 4) b mi_X5_decide [vR 7 0, vI v1, vI v2] σ (some (vI r), σ') := by
  refine MM.of (lv := [some (vR 7 0), some (vI v1), some (vI v2), none, none, none, none, none, none]) (by decide +kernel) rfl rfl (fun X Y => ?_)
  rw [f_X5_decide] at h
  refine r_aload_n (pc' := 1) d_X5_decide_0 rfl rfl rfl ?_
  refine r_iload_n (pc' := 2) d_X5_decide_1 rfl rfl rfl ?_
  refine r_iload_n (pc' := 3) d_X5_decide_2 rfl rfl rfl ?_
  refine r_iconst (pc' := 4) d_X5_decide_3 ci_m1 rfl ?_
  refine v3_i (mc := mi_X5_rankAfter) (bc := (0, 0)) (b' := _) (pc' := 7) cw_X5_31 d_X5_decide_4 rfl rfl rfl (Nat.zero_add _).symm (Nat.zero_add _).symm rfl h (fun _ _ e => t_X5_rankAfter e) (fun x2 s1 h => ?_)
  refine r_istore_n (pc' := 8) d_X5_decide_7 rfl rfl rfl rfl ?_
  refine r_iload_n (pc' := 9) d_X5_decide_8 rfl rfl rfl ?_
  refine r_bipush (pc' := 11) d_X5_decide_9 cb_m4 rfl ?_
  refine r_icmp_ne (pcT := 17) (pc' := 14) d_X5_decide_11 rfl rfl h (fun _ h => ?_) (fun _ h => ?_)
  · refine r_bipush (pc' := 16) d_X5_decide_14 cb_m4 rfl ?_
    exact r_iret d_X5_decide_16 rfl h
  · refine r_aload_n (pc' := 18) d_X5_decide_17 rfl rfl rfl ?_
    refine r_iload_n (pc' := 19) d_X5_decide_18 rfl rfl rfl ?_
    refine v1_i (mc := mi_X5_numberOf) (bc := (0, 0)) (b' := _) (pc' := 22) cw_X5_35 d_X5_decide_19 rfl rfl rfl (Nat.zero_add _).symm (Nat.zero_add _).symm rfl h (fun _ _ e => t_X5_numberOf e) (fun x4 s3 h => ?_)
    refine r_istore (pc' := 24) d_X5_decide_22 rfl rfl rfl ?_
    refine r_iload_n (pc' := 25) d_X5_decide_24 rfl rfl rfl ?_
    refine r_aload_n (pc' := 26) d_X5_decide_25 rfl rfl rfl ?_
    refine r_get (v := vR 8 _) (pc' := 29) fl_X5_11 d_X5_decide_26 rfl rfl (fun g => Or.inl ⟨rfl, g.2⟩) rfl ?_
    refine r_iload (pc' := 31) d_X5_decide_29 rfl rfl ?_
    refine r_iaload (pc' := 32) d_X5_decide_31 rfl (fun _ => rfl) rfl h (fun h => ?_)
    refine s2_i (mc := mi_X5_stepsTo) (bc := (0, 0)) (b' := _) (pc' := 35) cw_X5_39 d_X5_decide_32 rfl (Nat.zero_add _).symm (Nat.zero_add _).symm rfl h (fun _ _ e => t_X5_stepsTo e) (fun x6 s5 h => ?_)
    refine r_istore (pc' := 37) d_X5_decide_35 rfl rfl rfl ?_
    refine r_iload (pc' := 39) d_X5_decide_37 rfl rfl ?_
    refine r_iload_n (pc' := 40) d_X5_decide_39 rfl rfl rfl ?_
    refine r_aload_n (pc' := 41) d_X5_decide_40 rfl rfl rfl ?_
    refine r_get (v := vR 9 _) (pc' := 44) fl_X5_15 d_X5_decide_41 rfl rfl (fun g => Or.inl ⟨rfl, g.2⟩) rfl ?_
    refine r_iload (pc' := 46) d_X5_decide_44 rfl rfl ?_
    refine r_iaload (pc' := 47) d_X5_decide_46 rfl (fun _ => rfl) rfl h (fun h => ?_)
    refine s2_i (mc := mi_X5_stepsTo) (bc := (0, 0)) (b' := _) (pc' := 50) cw_X5_39 d_X5_decide_47 rfl (Nat.zero_add _).symm (Nat.zero_add _).symm rfl h (fun _ _ e => t_X5_stepsTo e) (fun x8 s7 h => ?_)
    refine r_iadd (pc' := 51) d_X5_decide_50 rfl ?_
    refine l_istore (pc' := 53) d_X5_decide_51 rfl rfl rfl h (fun x9 h => ?_)
    refine r_iconst (pc' := 54) d_X5_decide_53 ci_0 rfl ?_
    refine r_istore (pc' := 56) d_X5_decide_54 rfl rfl rfl ?_
    exact WM.drop [3] rfl (t_X5_decide_56 _ _ _ _ _ _ _ _ h)
