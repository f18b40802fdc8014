/-! OctagonYard.block(III)I -/
def mi_X7_block : MI := (yX7_block, cX7_block, 6, (some .int))
theorem d_X7_block_0 : decode mi_X7_block.2.1 0 = .ok (.iload_n 1, 1) := by decide +kernel
theorem d_X7_block_1 : decode mi_X7_block.2.1 1 = .ok (.iconst 1, 1) := by decide +kernel
theorem d_X7_block_2 : decode mi_X7_block.2.1 2 = .ok (.sipush 1000, 3) := by decide +kernel
theorem d_X7_block_5 : decode mi_X7_block.2.1 5 = .ok (.invokestatic 37, 3) := by decide +kernel
theorem d_X7_block_8 : decode mi_X7_block.2.1 8 = .ok (.ifCond .eq 25, 3) := by decide +kernel
theorem d_X7_block_11 : decode mi_X7_block.2.1 11 = .ok (.iload_n 2, 1) := by decide +kernel
theorem d_X7_block_12 : decode mi_X7_block.2.1 12 = .ok (.iconst 1, 1) := by decide +kernel
theorem d_X7_block_13 : decode mi_X7_block.2.1 13 = .ok (.sipush 1000, 3) := by decide +kernel
theorem d_X7_block_16 : decode mi_X7_block.2.1 16 = .ok (.invokestatic 37, 3) := by decide +kernel
theorem d_X7_block_19 : decode mi_X7_block.2.1 19 = .ok (.ifCond .eq 14, 3) := by decide +kernel
theorem d_X7_block_22 : decode mi_X7_block.2.1 22 = .ok (.iload_n 3, 1) := by decide +kernel
theorem d_X7_block_23 : decode mi_X7_block.2.1 23 = .ok (.iconst 1, 1) := by decide +kernel
theorem d_X7_block_24 : decode mi_X7_block.2.1 24 = .ok (.sipush 1000, 3) := by decide +kernel
theorem d_X7_block_27 : decode mi_X7_block.2.1 27 = .ok (.invokestatic 37, 3) := by decide +kernel
theorem d_X7_block_30 : decode mi_X7_block.2.1 30 = .ok (.ifCond .ne 5, 3) := by decide +kernel
theorem d_X7_block_33 : decode mi_X7_block.2.1 33 = .ok (.iconst (-1), 1) := by decide +kernel
theorem d_X7_block_34 : decode mi_X7_block.2.1 34 = .ok (.ireturn, 1) := by decide +kernel
theorem d_X7_block_35 : decode mi_X7_block.2.1 35 = .ok (.aload_n 0, 1) := by decide +kernel
theorem d_X7_block_36 : decode mi_X7_block.2.1 36 = .ok (.getfield 10, 3) := by decide +kernel
theorem d_X7_block_39 : decode mi_X7_block.2.1 39 = .ok (.invokevirtual 41, 3) := by decide +kernel
theorem d_X7_block_42 : decode mi_X7_block.2.1 42 = .ok (.ifCond .eq 6, 3) := by decide +kernel
theorem d_X7_block_45 : decode mi_X7_block.2.1 45 = .ok (.bipush (-3), 2) := by decide +kernel
theorem d_X7_block_47 : decode mi_X7_block.2.1 47 = .ok (.ireturn, 1) := by decide +kernel
theorem d_X7_block_48 : decode mi_X7_block.2.1 48 = .ok (.aload_n 0, 1) := by decide +kernel
theorem d_X7_block_49 : decode mi_X7_block.2.1 49 = .ok (.getfield 10, 3) := by decide +kernel
theorem d_X7_block_52 : decode mi_X7_block.2.1 52 = .ok (.getfield 45, 3) := by decide +kernel
theorem d_X7_block_55 : decode mi_X7_block.2.1 55 = .ok (.istore 4, 2) := by decide +kernel
theorem d_X7_block_57 : decode mi_X7_block.2.1 57 = .ok (.aload_n 0, 1) := by decide +kernel
theorem d_X7_block_58 : decode mi_X7_block.2.1 58 = .ok (.getfield 10, 3) := by decide +kernel
theorem d_X7_block_61 : decode mi_X7_block.2.1 61 = .ok (.iload 4, 2) := by decide +kernel
theorem d_X7_block_63 : decode mi_X7_block.2.1 63 = .ok (.iload_n 3, 1) := by decide +kernel
theorem d_X7_block_64 : decode mi_X7_block.2.1 64 = .ok (.invokevirtual 49, 3) := by decide +kernel
theorem d_X7_block_67 : decode mi_X7_block.2.1 67 = .ok (.astore 5, 2) := by decide +kernel
theorem d_X7_block_69 : decode mi_X7_block.2.1 69 = .ok (.aload 5, 2) := by decide +kernel
theorem d_X7_block_71 : decode mi_X7_block.2.1 71 = .ok (.getfield 53, 3) := by decide +kernel
theorem d_X7_block_74 : decode mi_X7_block.2.1 74 = .ok (.iload_n 1, 1) := by decide +kernel
theorem d_X7_block_75 : decode mi_X7_block.2.1 75 = .ok (.iload_n 2, 1) := by decide +kernel
theorem d_X7_block_76 : decode mi_X7_block.2.1 76 = .ok (.invokevirtual 59, 3) := by decide +kernel
theorem d_X7_block_79 : decode mi_X7_block.2.1 79 = .ok (.aload 5, 2) := by decide +kernel
theorem d_X7_block_81 : decode mi_X7_block.2.1 81 = .ok (.aload 5, 2) := by decide +kernel
theorem d_X7_block_83 : decode mi_X7_block.2.1 83 = .ok (.getfield 53, 3) := by decide +kernel
theorem d_X7_block_86 : decode mi_X7_block.2.1 86 = .ok (.invokevirtual 65, 3) := by decide +kernel
theorem d_X7_block_89 : decode mi_X7_block.2.1 89 = .ok (.putfield 69, 3) := by decide +kernel
theorem d_X7_block_92 : decode mi_X7_block.2.1 92 = .ok (.aload_n 0, 1) := by decide +kernel
theorem d_X7_block_93 : decode mi_X7_block.2.1 93 = .ok (.getfield 10, 3) := by decide +kernel
theorem d_X7_block_96 : decode mi_X7_block.2.1 96 = .ok (.dup, 1) := by decide +kernel
theorem d_X7_block_97 : decode mi_X7_block.2.1 97 = .ok (.getfield 72, 3) := by decide +kernel
theorem d_X7_block_100 : decode mi_X7_block.2.1 100 = .ok (.iconst 1, 1) := by decide +kernel
theorem d_X7_block_101 : decode mi_X7_block.2.1 101 = .ok (.iadd, 1) := by decide +kernel
theorem d_X7_block_102 : decode mi_X7_block.2.1 102 = .ok (.putfield 72, 3) := by decide +kernel
theorem d_X7_block_105 : decode mi_X7_block.2.1 105 = .ok (.aload_n 0, 1) := by decide +kernel
theorem d_X7_block_106 : decode mi_X7_block.2.1 106 = .ok (.getfield 19, 3) := by decide +kernel
theorem d_X7_block_109 : decode mi_X7_block.2.1 109 = .ok (.iconst (-1), 1) := by decide +kernel
theorem d_X7_block_110 : decode mi_X7_block.2.1 110 = .ok (.aconst_null, 1) := by decide +kernel
theorem d_X7_block_111 : decode mi_X7_block.2.1 111 = .ok (.iload 4, 2) := by decide +kernel
theorem d_X7_block_113 : decode mi_X7_block.2.1 113 = .ok (.invokevirtual 75, 3) := by decide +kernel
theorem d_X7_block_116 : decode mi_X7_block.2.1 116 = .ok (.iload 4, 2) := by decide +kernel
theorem d_X7_block_118 : decode mi_X7_block.2.1 118 = .ok (.ireturn, 1) := by decide +kernel
theorem cs_1000 : (Int16.ofInt (1000)).toInt32 = 1000 := by decide
theorem in_7 : ∀ w ∈ u_ws RX7 TX7 4, w ∈ mtbl := by decide +kernel
theorem fl_X7_10 : FL RX7 10 7 4 0 := ⟨RX7, TX7, rfl, by decide, rfl, by decide +kernel, in_7⟩
theorem fl_X7_19 : FL RX7 19 7 4 1 := ⟨RX7, TX7, rfl, by decide, rfl, by decide +kernel, in_7⟩
theorem fl_X7_45 : FL RX7 45 6 3 1 := ⟨RX6, TX6, rfl, by decide, rfl, by decide +kernel, in_6⟩
theorem fl_X7_53 : FL RX7 53 4 5 0 := ⟨RX4, TX4, rfl, by decide, rfl, by decide +kernel, in_4⟩
theorem fl_X7_69 : FL RX7 69 4 5 3 := ⟨RX4, TX4, rfl, by decide, rfl, by decide +kernel, in_4⟩
theorem fl_X7_72 : FL RX7 72 6 3 2 := ⟨RX6, TX6, rfl, by decide, rfl, by decide +kernel, in_6⟩
theorem fw_4_3 : FW 4 5 3 .int := ⟨RX4, TX4, tyX4, rfl, rfl, by decide +kernel, tyX4_ok, nmX4⟩
theorem cw_X7_37 : CT RX7 37 mi_X7_isFrom 3 := by unfold CT; decide +kernel
theorem cw_X7_41 : CV RX7 41 mi_X6_isFull 0 := by unfold CV; decide +kernel
theorem cw_X7_49 : CV RX7 49 mi_X6_add 2 := by unfold CV; decide +kernel
theorem cw_X7_59 : CV RX7 59 mi_X3_becomeBox 2 := by unfold CV; decide +kernel
theorem cw_X7_65 : CV RX7 65 mi_X3_eightfold 0 := by unfold CV; decide +kernel
theorem cw_X7_75 : CV RX7 75 mi_X2_keep 3 := by unfold CV; decide +kernel
def f_X7_block (v1 : Int32) (v2 : Int32) (v3 : Int32) (σ : SS) : Option (Int32 × SS) := cal (f_X7_isFrom v1 (1 : Int32) (1000 : Int32) σ) (fun x2 s1 => if x2 = 0 then (some ((-1 : Int32), s1)) else (cal (f_X7_isFrom v2 (1 : Int32) (1000 : Int32) s1) (fun x4 s3 => if x4 = 0 then (some ((-1 : Int32), s3)) else (cal (f_X7_isFrom v3 (1 : Int32) (1000 : Int32) s3) (fun x6 s5 => if x6 = 0 then (some ((-1 : Int32), s5)) else (cal (f_X6_isFull  s5) (fun x8 s7 => if x8 = 0 then (lt_ (s7.1 1 0 1) (fun x9 => cal (f_X6_add x9 v3 s7) (fun q11 s10 => Option.elim q11 none (fun i12 => cal (f_X3_becomeBox i12 v1 v2 s10) (fun _ s13 => cal (f_X3_eightfold i12 s13) (fun x15 s14 => lt_ (up s14 16 i12 3 x15) (fun s16 => lt_ (up s16 1 0 2 ((s16.1 1 0 2) + (1 : Int32))) (fun s17 => cal (f_X2_keep (-1 : Int32) none x9 s17) (fun _ s18 => some (x9, s18)))))))))) else (some ((-3 : Int32), s7)))))))))
set_option maxRecDepth 20000 in
theorem t_X7_block {d : Nat} {v1 : Int32} {v2 : Int32} {v3 : Int32} {σ : SS} {r : Int32} {σ' : SS} (h : f_X7_block v1 v2 v3 σ = some (r, σ')) : MM (d + 4) (6, 42) mi_X7_block [vR 0 0, vI v1, vI v2, vI v3] σ (some (vI r), σ') := by
  refine MM.of (lv := [some (vR 0 0), some (vI v1), some (vI v2), some (vI v3), none, none]) (by decide +kernel) rfl rfl (fun X Y => ?_)
  rw [f_X7_block] at h
  refine r_iload_n (pc' := 1) d_X7_block_0 rfl rfl rfl ?_
  refine r_iconst (pc' := 2) d_X7_block_1 ci_1 rfl ?_
  refine r_sipush (pc' := 5) d_X7_block_2 cs_1000 rfl ?_
  refine s3_i (mc := mi_X7_isFrom) (bc := (0, 0)) (b' := _) (pc' := 8) cw_X7_37 d_X7_block_5 rfl (Nat.zero_add _).symm (Nat.zero_add _).symm rfl h (fun _ _ e => t_X7_isFrom e) (fun x2 s1 h => ?_)
  refine r_if_eq (pcT := 33) (pc' := 11) d_X7_block_8 rfl rfl h (fun _ h => ?_) (fun _ h => ?_)
  · refine r_iconst (pc' := 34) d_X7_block_33 ci_m1 rfl ?_
    exact r_iret d_X7_block_34 rfl h
  · refine r_iload_n (pc' := 12) d_X7_block_11 rfl rfl rfl ?_
    refine r_iconst (pc' := 13) d_X7_block_12 ci_1 rfl ?_
    refine r_sipush (pc' := 16) d_X7_block_13 cs_1000 rfl ?_
    refine s3_i (mc := mi_X7_isFrom) (bc := (0, 0)) (b' := _) (pc' := 19) cw_X7_37 d_X7_block_16 rfl (Nat.zero_add _).symm (Nat.zero_add _).symm rfl h (fun _ _ e => t_X7_isFrom e) (fun x4 s3 h => ?_)
    refine r_if_eq (pcT := 33) (pc' := 22) d_X7_block_19 rfl rfl h (fun _ h => ?_) (fun _ h => ?_)
    · refine r_iconst (pc' := 34) d_X7_block_33 ci_m1 rfl ?_
      exact r_iret d_X7_block_34 rfl h
    · refine r_iload_n (pc' := 23) d_X7_block_22 rfl rfl rfl ?_
      refine r_iconst (pc' := 24) d_X7_block_23 ci_1 rfl ?_
      refine r_sipush (pc' := 27) d_X7_block_24 cs_1000 rfl ?_
      refine s3_i (mc := mi_X7_isFrom) (bc := (0, 0)) (b' := _) (pc' := 30) cw_X7_37 d_X7_block_27 rfl (Nat.zero_add _).symm (Nat.zero_add _).symm rfl h (fun _ _ e => t_X7_isFrom e) (fun x6 s5 h => ?_)
      refine r_if_ne (pcT := 35) (pc' := 33) d_X7_block_30 rfl rfl h (fun _ h => ?_) (fun _ h => ?_)
      · refine r_iconst (pc' := 34) d_X7_block_33 ci_m1 rfl ?_
        exact r_iret d_X7_block_34 rfl h
      · refine r_aload_n (pc' := 36) d_X7_block_35 rfl rfl rfl ?_
        refine r_get (v := vR 1 _) (pc' := 39) fl_X7_10 d_X7_block_36 rfl rfl (fun g => Or.inl ⟨rfl, g.2⟩) rfl ?_
        refine v0_i (mc := mi_X6_isFull) (bc := (0, 0)) (b' := _) (pc' := 42) cw_X7_41 d_X7_block_39 rfl rfl rfl (Nat.zero_add _).symm (Nat.zero_add _).symm rfl h (fun _ _ e => t_X6_isFull e) (fun x8 s7 h => ?_)
        refine r_if_eq (pcT := 48) (pc' := 45) d_X7_block_42 rfl rfl h (fun _ h => ?_) (fun _ h => ?_)
        · refine r_aload_n (pc' := 49) d_X7_block_48 rfl rfl rfl ?_
          refine r_get (v := vR 1 _) (pc' := 52) fl_X7_10 d_X7_block_49 rfl rfl (fun g => Or.inl ⟨rfl, g.2⟩) rfl ?_
          refine r_get (v := vI _) (pc' := 55) fl_X7_45 d_X7_block_52 rfl rfl (fun _ => trivial) rfl ?_
          refine l_istore (pc' := 57) d_X7_block_55 rfl rfl rfl h (fun x9 h => ?_)
          refine r_aload_n (pc' := 58) d_X7_block_57 rfl rfl rfl ?_
          refine r_get (v := vR 1 _) (pc' := 61) fl_X7_10 d_X7_block_58 rfl rfl (fun g => Or.inl ⟨rfl, g.2⟩) rfl ?_
          refine r_iload (pc' := 63) d_X7_block_61 rfl rfl ?_
          refine r_iload_n (pc' := 64) d_X7_block_63 rfl rfl rfl ?_
          refine v2_o (t := 16) (mc := mi_X6_add) (bc := (6, 42)) (b' := (0, 0)) (pc' := 67) cw_X7_49 d_X7_block_64 rfl rfl rfl rfl rfl rfl h (fun _ _ e => t_X6_add e) (fun q11 s10 h => ?_)
          refine r_astore (pc' := 69) d_X7_block_67 rfl rfl rfl ?_
          refine r_aload (pc' := 71) d_X7_block_69 rfl rfl ?_
          obtain ⟨i12, e, hn⟩ := elim_s h
          clear h; subst e; have h := hn; clear hn
          refine r_get (v := vR 17 _) (pc' := 74) fl_X7_53 d_X7_block_71 rfl rfl (fun g => Or.inl ⟨rfl, g.2⟩) rfl ?_
          refine r_iload_n (pc' := 75) d_X7_block_74 rfl rfl rfl ?_
          refine r_iload_n (pc' := 76) d_X7_block_75 rfl rfl rfl ?_
          refine v2_v (mc := mi_X3_becomeBox) (bc := (0, 0)) (b' := _) (pc' := 79) cw_X7_59 d_X7_block_76 rfl rfl rfl (Nat.zero_add _).symm (Nat.zero_add _).symm rfl h (fun _ _ e => t_X3_becomeBox e) (fun _ s13 h => ?_)
          refine r_aload (pc' := 81) d_X7_block_79 rfl rfl ?_
          refine r_aload (pc' := 83) d_X7_block_81 rfl rfl ?_
          refine r_get (v := vR 17 _) (pc' := 86) fl_X7_53 d_X7_block_83 rfl rfl (fun g => Or.inl ⟨rfl, g.2⟩) rfl ?_
          refine v0_i (mc := mi_X3_eightfold) (bc := (0, 0)) (b' := _) (pc' := 89) cw_X7_65 d_X7_block_86 rfl rfl rfl (Nat.zero_add _).symm (Nat.zero_add _).symm rfl h (fun _ _ e => t_X3_eightfold e) (fun x15 s14 h => ?_)
          refine l_put (k := 3) (pc' := 92) fl_X7_69 fw_4_3 rfl rfl d_X7_block_89 rfl (by decide) (by decide) rfl rfl h (fun s16 h => ?_)
          refine r_aload_n (pc' := 93) d_X7_block_92 rfl rfl rfl ?_
          refine r_get (v := vR 1 _) (pc' := 96) fl_X7_10 d_X7_block_93 rfl rfl (fun g => Or.inl ⟨rfl, g.2⟩) rfl ?_
          refine r_dup (pc' := 97) d_X7_block_96 rfl rfl ?_
          refine r_get (v := vI _) (pc' := 100) fl_X7_72 d_X7_block_97 rfl rfl (fun _ => trivial) rfl ?_
          refine r_iconst (pc' := 101) d_X7_block_100 ci_1 rfl ?_
          refine r_iadd (pc' := 102) d_X7_block_101 rfl ?_
          refine l_put (k := 2) (pc' := 105) fl_X7_72 fw_6_2 rfl rfl d_X7_block_102 rfl (by decide) (by decide) rfl rfl h (fun s17 h => ?_)
          refine r_aload_n (pc' := 106) d_X7_block_105 rfl rfl rfl ?_
          refine r_get (v := vR 3 _) (pc' := 109) fl_X7_19 d_X7_block_106 rfl rfl (fun g => Or.inl ⟨rfl, g.2⟩) rfl ?_
          refine r_iconst (pc' := 110) d_X7_block_109 ci_m1 rfl ?_
          refine r_null (pc' := 111) d_X7_block_110 rfl ?_
          refine r_iload (pc' := 113) d_X7_block_111 rfl rfl ?_
          refine v3_v (mc := mi_X2_keep) (bc := (0, 0)) (b' := _) (pc' := 116) cw_X7_75 d_X7_block_113 rfl rfl rfl (Nat.zero_add _).symm (Nat.zero_add _).symm rfl h (fun _ _ e => t_X2_keep e) (fun _ s18 h => ?_)
          refine r_iload (pc' := 118) d_X7_block_116 rfl rfl ?_
          exact r_iret d_X7_block_118 rfl h
        · refine r_bipush (pc' := 47) d_X7_block_45 cb_m3 rfl ?_
          exact r_iret d_X7_block_47 rfl h
/-! OctagonYard.cut(III)I -/
def mi_X7_cut : MI := (yX7_cut, cX7_cut, 7, (some .int))
theorem d_X7_cut_0 : decode mi_X7_cut.2.1 0 = .ok (.aload_n 0, 1) := by decide +kernel
theorem d_X7_cut_1 : decode mi_X7_cut.2.1 1 = .ok (.getfield 10, 3) := by decide +kernel
theorem d_X7_cut_4 : decode mi_X7_cut.2.1 4 = .ok (.iload_n 1, 1) := by decide +kernel
theorem d_X7_cut_5 : decode mi_X7_cut.2.1 5 = .ok (.invokevirtual 79, 3) := by decide +kernel
theorem d_X7_cut_8 : decode mi_X7_cut.2.1 8 = .ok (.astore 4, 2) := by decide +kernel
theorem d_X7_cut_10 : decode mi_X7_cut.2.1 10 = .ok (.aload 4, 2) := by decide +kernel
theorem d_X7_cut_12 : decode mi_X7_cut.2.1 12 = .ok (.ifnull 25, 3) := by decide +kernel
theorem d_X7_cut_15 : decode mi_X7_cut.2.1 15 = .ok (.iload_n 2, 1) := by decide +kernel
theorem d_X7_cut_16 : decode mi_X7_cut.2.1 16 = .ok (.iconst 0, 1) := by decide +kernel
theorem d_X7_cut_17 : decode mi_X7_cut.2.1 17 = .ok (.iconst 3, 1) := by decide +kernel
theorem d_X7_cut_18 : decode mi_X7_cut.2.1 18 = .ok (.invokestatic 37, 3) := by decide +kernel
theorem d_X7_cut_21 : decode mi_X7_cut.2.1 21 = .ok (.ifCond .eq 16, 3) := by decide +kernel
theorem d_X7_cut_24 : decode mi_X7_cut.2.1 24 = .ok (.iload_n 3, 1) := by decide +kernel
theorem d_X7_cut_25 : decode mi_X7_cut.2.1 25 = .ok (.sipush (-4000), 3) := by decide +kernel
theorem d_X7_cut_28 : decode mi_X7_cut.2.1 28 = .ok (.sipush 4000, 3) := by decide +kernel
theorem d_X7_cut_31 : decode mi_X7_cut.2.1 31 = .ok (.invokestatic 37, 3) := by decide +kernel
theorem d_X7_cut_34 : decode mi_X7_cut.2.1 34 = .ok (.ifCond .ne 5, 3) := by decide +kernel
theorem d_X7_cut_37 : decode mi_X7_cut.2.1 37 = .ok (.iconst (-1), 1) := by decide +kernel
theorem d_X7_cut_38 : decode mi_X7_cut.2.1 38 = .ok (.ireturn, 1) := by decide +kernel
theorem d_X7_cut_39 : decode mi_X7_cut.2.1 39 = .ok (.aload 4, 2) := by decide +kernel
theorem d_X7_cut_41 : decode mi_X7_cut.2.1 41 = .ok (.getfield 53, 3) := by decide +kernel
theorem d_X7_cut_44 : decode mi_X7_cut.2.1 44 = .ok (.iload_n 2, 1) := by decide +kernel
theorem d_X7_cut_45 : decode mi_X7_cut.2.1 45 = .ok (.iconst 2, 1) := by decide +kernel
theorem d_X7_cut_46 : decode mi_X7_cut.2.1 46 = .ok (.iload_n 3, 1) := by decide +kernel
theorem d_X7_cut_47 : decode mi_X7_cut.2.1 47 = .ok (.imul, 1) := by decide +kernel
theorem d_X7_cut_48 : decode mi_X7_cut.2.1 48 = .ok (.invokevirtual 83, 3) := by decide +kernel
theorem d_X7_cut_51 : decode mi_X7_cut.2.1 51 = .ok (.ifCond .ne 6, 3) := by decide +kernel
theorem d_X7_cut_54 : decode mi_X7_cut.2.1 54 = .ok (.bipush (-2), 2) := by decide +kernel
theorem d_X7_cut_56 : decode mi_X7_cut.2.1 56 = .ok (.ireturn, 1) := by decide +kernel
theorem d_X7_cut_57 : decode mi_X7_cut.2.1 57 = .ok (.aload_n 0, 1) := by decide +kernel
theorem d_X7_cut_58 : decode mi_X7_cut.2.1 58 = .ok (.getfield 10, 3) := by decide +kernel
theorem d_X7_cut_61 : decode mi_X7_cut.2.1 61 = .ok (.invokevirtual 41, 3) := by decide +kernel
theorem d_X7_cut_64 : decode mi_X7_cut.2.1 64 = .ok (.ifCond .eq 6, 3) := by decide +kernel
theorem d_X7_cut_67 : decode mi_X7_cut.2.1 67 = .ok (.bipush (-3), 2) := by decide +kernel
theorem d_X7_cut_69 : decode mi_X7_cut.2.1 69 = .ok (.ireturn, 1) := by decide +kernel
theorem d_X7_cut_70 : decode mi_X7_cut.2.1 70 = .ok (.aload_n 0, 1) := by decide +kernel
theorem d_X7_cut_71 : decode mi_X7_cut.2.1 71 = .ok (.getfield 10, 3) := by decide +kernel
theorem d_X7_cut_74 : decode mi_X7_cut.2.1 74 = .ok (.getfield 45, 3) := by decide +kernel
theorem d_X7_cut_77 : decode mi_X7_cut.2.1 77 = .ok (.istore 5, 2) := by decide +kernel
theorem d_X7_cut_79 : decode mi_X7_cut.2.1 79 = .ok (.aload_n 0, 1) := by decide +kernel
theorem d_X7_cut_80 : decode mi_X7_cut.2.1 80 = .ok (.getfield 10, 3) := by decide +kernel
theorem d_X7_cut_83 : decode mi_X7_cut.2.1 83 = .ok (.aload 4, 2) := by decide +kernel
theorem d_X7_cut_85 : decode mi_X7_cut.2.1 85 = .ok (.getfield 87, 3) := by decide +kernel
theorem d_X7_cut_88 : decode mi_X7_cut.2.1 88 = .ok (.aload 4, 2) := by decide +kernel
theorem d_X7_cut_90 : decode mi_X7_cut.2.1 90 = .ok (.getfield 90, 3) := by decide +kernel
theorem d_X7_cut_93 : decode mi_X7_cut.2.1 93 = .ok (.invokevirtual 49, 3) := by decide +kernel
theorem d_X7_cut_96 : decode mi_X7_cut.2.1 96 = .ok (.astore 6, 2) := by decide +kernel
theorem d_X7_cut_98 : decode mi_X7_cut.2.1 98 = .ok (.aload_n 0, 1) := by decide +kernel
theorem d_X7_cut_99 : decode mi_X7_cut.2.1 99 = .ok (.getfield 19, 3) := by decide +kernel
theorem d_X7_cut_102 : decode mi_X7_cut.2.1 102 = .ok (.iload_n 1, 1) := by decide +kernel
theorem d_X7_cut_103 : decode mi_X7_cut.2.1 103 = .ok (.aload 4, 2) := by decide +kernel
theorem d_X7_cut_105 : decode mi_X7_cut.2.1 105 = .ok (.getfield 53, 3) := by decide +kernel
theorem d_X7_cut_108 : decode mi_X7_cut.2.1 108 = .ok (.iload 5, 2) := by decide +kernel
theorem d_X7_cut_110 : decode mi_X7_cut.2.1 110 = .ok (.invokevirtual 75, 3) := by decide +kernel
theorem d_X7_cut_113 : decode mi_X7_cut.2.1 113 = .ok (.aload 4, 2) := by decide +kernel
theorem d_X7_cut_115 : decode mi_X7_cut.2.1 115 = .ok (.getfield 53, 3) := by decide +kernel
theorem d_X7_cut_118 : decode mi_X7_cut.2.1 118 = .ok (.iload_n 2, 1) := by decide +kernel
theorem d_X7_cut_119 : decode mi_X7_cut.2.1 119 = .ok (.iconst 2, 1) := by decide +kernel
theorem d_X7_cut_120 : decode mi_X7_cut.2.1 120 = .ok (.iload_n 3, 1) := by decide +kernel
theorem d_X7_cut_121 : decode mi_X7_cut.2.1 121 = .ok (.imul, 1) := by decide +kernel
theorem d_X7_cut_122 : decode mi_X7_cut.2.1 122 = .ok (.aload 6, 2) := by decide +kernel
theorem d_X7_cut_124 : decode mi_X7_cut.2.1 124 = .ok (.getfield 53, 3) := by decide +kernel
theorem d_X7_cut_127 : decode mi_X7_cut.2.1 127 = .ok (.invokevirtual 93, 3) := by decide +kernel
theorem d_X7_cut_130 : decode mi_X7_cut.2.1 130 = .ok (.iload 5, 2) := by decide +kernel
theorem d_X7_cut_132 : decode mi_X7_cut.2.1 132 = .ok (.ireturn, 1) := by decide +kernel
theorem cs_m4000 : (Int16.ofInt (-4000)).toInt32 = -4000 := by decide
theorem fl_X7_87 : FL RX7 87 4 5 2 := ⟨RX4, TX4, rfl, by decide, rfl, by decide +kernel, in_4⟩
theorem fl_X7_90 : FL RX7 90 4 5 1 := ⟨RX4, TX4, rfl, by decide, rfl, by decide +kernel, in_4⟩
theorem cw_X7_79 : CV RX7 79 mi_X6_find 1 := by unfold CV; decide +kernel
theorem cw_X7_83 : CV RX7 83 mi_X3_isCrossedBy 2 := by unfold CV; decide +kernel
theorem cw_X7_93 : CV RX7 93 mi_X3_splitAt 3 := by unfold CV; decide +kernel
def f_X7_cut (v1 : Int32) (v2 : Int32) (v3 : Int32) (σ : SS) : Option (Int32 × SS) := cal (f_X6_find v1 σ) (fun q2 s1 => Option.elim q2 (some ((-1 : Int32), s1)) (fun i3 => cal (f_X7_isFrom v2 (0 : Int32) (3 : Int32) s1) (fun x5 s4 => if x5 = 0 then (some ((-1 : Int32), s4)) else (cal (f_X7_isFrom v3 (-4000 : Int32) (4000 : Int32) s4) (fun x7 s6 => if x7 = 0 then (some ((-1 : Int32), s6)) else (cal (f_X3_isCrossedBy i3 v2 ((2 : Int32) * v3) s6) (fun x9 s8 => if x9 = 0 then (some ((-2 : Int32), s8)) else (cal (f_X6_isFull  s8) (fun x11 s10 => if x11 = 0 then (lt_ (s10.1 1 0 1) (fun x12 => cal (f_X6_add (s10.1 16 i3 2) (s10.1 16 i3 1) s10) (fun q14 s13 => cal (f_X2_keep v1 (some i3) x12 s13) (fun _ s15 => Option.elim q14 none (fun i16 => cal (f_X3_splitAt i3 v2 ((2 : Int32) * v3) i16 s15) (fun _ s17 => some (x12, s17))))))) else (some ((-3 : Int32), s10)))))))))))
set_option maxRecDepth 20000 in
theorem t_X7_cut {d : Nat} {v1 : Int32} {v2 : Int32} {v3 : Int32} {σ : SS} {r : Int32} {σ' : SS} (h : f_X7_cut v1 v2 v3 σ = some (r, σ')) : MM (d + 4) (6, 42) mi_X7_cut [vR 0 0, vI v1, vI v2, vI v3] σ (some (vI r), σ') := by
  refine MM.of (lv := [some (vR 0 0), some (vI v1), some (vI v2), some (vI v3), none, none, none]) (by decide +kernel) rfl rfl (fun X Y => ?_)
  rw [f_X7_cut] at h
  refine r_aload_n (pc' := 1) d_X7_cut_0 rfl rfl rfl ?_
  refine r_get (v := vR 1 _) (pc' := 4) fl_X7_10 d_X7_cut_1 rfl rfl (fun g => Or.inl ⟨rfl, g.2⟩) rfl ?_
  refine r_iload_n (pc' := 5) d_X7_cut_4 rfl rfl rfl ?_
  refine v1_o (t := 16) (mc := mi_X6_find) (bc := (0, 0)) (b' := _) (pc' := 8) cw_X7_79 d_X7_cut_5 rfl rfl rfl (Nat.zero_add _).symm (Nat.zero_add _).symm rfl h (fun _ _ e => t_X6_find e) (fun q2 s1 h => ?_)
  refine r_astore (pc' := 10) d_X7_cut_8 rfl rfl rfl ?_
  refine r_aload (pc' := 12) d_X7_cut_10 rfl rfl ?_
  refine r_ifnull (pcT := 37) (pc' := 15) d_X7_cut_12 rfl rfl h (fun e hn => ?_) (fun i3 e hn => ?_)
  · clear h; subst e; have h := hn; clear hn
    refine r_iconst (pc' := 38) d_X7_cut_37 ci_m1 rfl ?_
    exact r_iret d_X7_cut_38 rfl h
  · clear h; subst e; have h := hn; clear hn
    refine r_iload_n (pc' := 16) d_X7_cut_15 rfl rfl rfl ?_
    refine r_iconst (pc' := 17) d_X7_cut_16 ci_0 rfl ?_
    refine r_iconst (pc' := 18) d_X7_cut_17 ci_3 rfl ?_
    refine s3_i (mc := mi_X7_isFrom) (bc := (0, 0)) (b' := _) (pc' := 21) cw_X7_37 d_X7_cut_18 rfl (Nat.zero_add _).symm (Nat.zero_add _).symm rfl h (fun _ _ e => t_X7_isFrom e) (fun x5 s4 h => ?_)
    refine r_if_eq (pcT := 37) (pc' := 24) d_X7_cut_21 rfl rfl h (fun _ h => ?_) (fun _ h => ?_)
    · refine r_iconst (pc' := 38) d_X7_cut_37 ci_m1 rfl ?_
      exact r_iret d_X7_cut_38 rfl h
    · refine r_iload_n (pc' := 25) d_X7_cut_24 rfl rfl rfl ?_
      refine r_sipush (pc' := 28) d_X7_cut_25 cs_m4000 rfl ?_
      refine r_sipush (pc' := 31) d_X7_cut_28 cs_4000 rfl ?_
      refine s3_i (mc := mi_X7_isFrom) (bc := (0, 0)) (b' := _) (pc' := 34) cw_X7_37 d_X7_cut_31 rfl (Nat.zero_add _).symm (Nat.zero_add _).symm rfl h (fun _ _ e => t_X7_isFrom e) (fun x7 s6 h => ?_)
      refine r_if_ne (pcT := 39) (pc' := 37) d_X7_cut_34 rfl rfl h (fun _ h => ?_) (fun _ h => ?_)
      · refine r_iconst (pc' := 38) d_X7_cut_37 ci_m1 rfl ?_
        exact r_iret d_X7_cut_38 rfl h
      · refine r_aload (pc' := 41) d_X7_cut_39 rfl rfl ?_
        refine r_get (v := vR 17 _) (pc' := 44) fl_X7_53 d_X7_cut_41 rfl rfl (fun g => Or.inl ⟨rfl, g.2⟩) rfl ?_
        refine r_iload_n (pc' := 45) d_X7_cut_44 rfl rfl rfl ?_
        refine r_iconst (pc' := 46) d_X7_cut_45 ci_2 rfl ?_
        refine r_iload_n (pc' := 47) d_X7_cut_46 rfl rfl rfl ?_
        refine r_imul (pc' := 48) d_X7_cut_47 rfl ?_
        refine v2_i (mc := mi_X3_isCrossedBy) (bc := (0, 0)) (b' := _) (pc' := 51) cw_X7_83 d_X7_cut_48 rfl rfl rfl (Nat.zero_add _).symm (Nat.zero_add _).symm rfl h (fun _ _ e => t_X3_isCrossedBy e) (fun x9 s8 h => ?_)
        refine r_if_ne (pcT := 57) (pc' := 54) d_X7_cut_51 rfl rfl h (fun _ h => ?_) (fun _ h => ?_)
        · refine r_bipush (pc' := 56) d_X7_cut_54 cb_m2 rfl ?_
          exact r_iret d_X7_cut_56 rfl h
        · refine r_aload_n (pc' := 58) d_X7_cut_57 rfl rfl rfl ?_
          refine r_get (v := vR 1 _) (pc' := 61) fl_X7_10 d_X7_cut_58 rfl rfl (fun g => Or.inl ⟨rfl, g.2⟩) rfl ?_
          refine v0_i (mc := mi_X6_isFull) (bc := (0, 0)) (b' := _) (pc' := 64) cw_X7_41 d_X7_cut_61 rfl rfl rfl (Nat.zero_add _).symm (Nat.zero_add _).symm rfl h (fun _ _ e => t_X6_isFull e) (fun x11 s10 h => ?_)
          refine r_if_eq (pcT := 70) (pc' := 67) d_X7_cut_64 rfl rfl h (fun _ h => ?_) (fun _ h => ?_)
          · refine r_aload_n (pc' := 71) d_X7_cut_70 rfl rfl rfl ?_
            refine r_get (v := vR 1 _) (pc' := 74) fl_X7_10 d_X7_cut_71 rfl rfl (fun g => Or.inl ⟨rfl, g.2⟩) rfl ?_
            refine r_get (v := vI _) (pc' := 77) fl_X7_45 d_X7_cut_74 rfl rfl (fun _ => trivial) rfl ?_
            refine l_istore (pc' := 79) d_X7_cut_77 rfl rfl rfl h (fun x12 h => ?_)
            refine r_aload_n (pc' := 80) d_X7_cut_79 rfl rfl rfl ?_
            refine r_get (v := vR 1 _) (pc' := 83) fl_X7_10 d_X7_cut_80 rfl rfl (fun g => Or.inl ⟨rfl, g.2⟩) rfl ?_
            refine r_aload (pc' := 85) d_X7_cut_83 rfl rfl ?_
            refine r_get (v := vI _) (pc' := 88) fl_X7_87 d_X7_cut_85 rfl rfl (fun _ => trivial) rfl ?_
            refine r_aload (pc' := 90) d_X7_cut_88 rfl rfl ?_
            refine r_get (v := vI _) (pc' := 93) fl_X7_90 d_X7_cut_90 rfl rfl (fun _ => trivial) rfl ?_
            refine v2_o (t := 16) (mc := mi_X6_add) (bc := (6, 42)) (b' := (0, 0)) (pc' := 96) cw_X7_49 d_X7_cut_93 rfl rfl rfl rfl rfl rfl h (fun _ _ e => t_X6_add e) (fun q14 s13 h => ?_)
            refine r_astore (pc' := 98) d_X7_cut_96 rfl rfl rfl ?_
            refine r_aload_n (pc' := 99) d_X7_cut_98 rfl rfl rfl ?_
            refine r_get (v := vR 3 _) (pc' := 102) fl_X7_19 d_X7_cut_99 rfl rfl (fun g => Or.inl ⟨rfl, g.2⟩) rfl ?_
            refine r_iload_n (pc' := 103) d_X7_cut_102 rfl rfl rfl ?_
            refine r_aload (pc' := 105) d_X7_cut_103 rfl rfl ?_
            refine r_get (v := vR 17 _) (pc' := 108) fl_X7_53 d_X7_cut_105 rfl rfl (fun g => Or.inl ⟨rfl, g.2⟩) rfl ?_
            refine r_iload (pc' := 110) d_X7_cut_108 rfl rfl ?_
            refine v3_v (mc := mi_X2_keep) (bc := (0, 0)) (b' := _) (pc' := 113) cw_X7_75 d_X7_cut_110 rfl rfl rfl (Nat.zero_add _).symm (Nat.zero_add _).symm rfl h (fun _ _ e => t_X2_keep e) (fun _ s15 h => ?_)
            refine r_aload (pc' := 115) d_X7_cut_113 rfl rfl ?_
            refine r_get (v := vR 17 _) (pc' := 118) fl_X7_53 d_X7_cut_115 rfl rfl (fun g => Or.inl ⟨rfl, g.2⟩) rfl ?_
            refine r_iload_n (pc' := 119) d_X7_cut_118 rfl rfl rfl ?_
            refine r_iconst (pc' := 120) d_X7_cut_119 ci_2 rfl ?_
            refine r_iload_n (pc' := 121) d_X7_cut_120 rfl rfl rfl ?_
            refine r_imul (pc' := 122) d_X7_cut_121 rfl ?_
            refine r_aload (pc' := 124) d_X7_cut_122 rfl rfl ?_
            obtain ⟨i16, e, hn⟩ := elim_s h
            clear h; subst e; have h := hn; clear hn
            refine r_get (v := vR 17 _) (pc' := 127) fl_X7_53 d_X7_cut_124 rfl rfl (fun g => Or.inl ⟨rfl, g.2⟩) rfl ?_
            refine v3_v (mc := mi_X3_splitAt) (bc := (0, 0)) (b' := _) (pc' := 130) cw_X7_93 d_X7_cut_127 rfl rfl rfl (Nat.zero_add _).symm (Nat.zero_add _).symm rfl h (fun _ _ e => t_X3_splitAt e) (fun _ s17 h => ?_)
            refine r_iload (pc' := 132) d_X7_cut_130 rfl rfl ?_
            exact r_iret d_X7_cut_132 rfl h
          · refine r_bipush (pc' := 69) d_X7_cut_67 cb_m3 rfl ?_
            exact r_iret d_X7_cut_69 rfl h
/-! OctagonYard.move(III)I -/
def mi_X7_move : MI := (yX7_move, cX7_move, 5, (some .int))
theorem d_X7_move_0 : decode mi_X7_move.2.1 0 = .ok (.aload_n 0, 1) := by decide +kernel
theorem d_X7_move_1 : decode mi_X7_move.2.1 1 = .ok (.getfield 10, 3) := by decide +kernel
theorem d_X7_move_4 : decode mi_X7_move.2.1 4 = .ok (.iload_n 1, 1) := by decide +kernel
theorem d_X7_move_5 : decode mi_X7_move.2.1 5 = .ok (.invokevirtual 79, 3) := by decide +kernel
theorem d_X7_move_8 : decode mi_X7_move.2.1 8 = .ok (.astore 4, 2) := by decide +kernel
theorem d_X7_move_10 : decode mi_X7_move.2.1 10 = .ok (.aload 4, 2) := by decide +kernel
theorem d_X7_move_12 : decode mi_X7_move.2.1 12 = .ok (.ifnull 29, 3) := by decide +kernel
theorem d_X7_move_15 : decode mi_X7_move.2.1 15 = .ok (.iload_n 2, 1) := by decide +kernel
theorem d_X7_move_16 : decode mi_X7_move.2.1 16 = .ok (.sipush (-1000), 3) := by decide +kernel
theorem d_X7_move_19 : decode mi_X7_move.2.1 19 = .ok (.sipush 1000, 3) := by decide +kernel
theorem d_X7_move_22 : decode mi_X7_move.2.1 22 = .ok (.invokestatic 37, 3) := by decide +kernel
theorem d_X7_move_25 : decode mi_X7_move.2.1 25 = .ok (.ifCond .eq 16, 3) := by decide +kernel
theorem d_X7_move_28 : decode mi_X7_move.2.1 28 = .ok (.iload_n 3, 1) := by decide +kernel
theorem d_X7_move_29 : decode mi_X7_move.2.1 29 = .ok (.sipush (-1000), 3) := by decide +kernel
theorem d_X7_move_32 : decode mi_X7_move.2.1 32 = .ok (.sipush 1000, 3) := by decide +kernel
theorem d_X7_move_35 : decode mi_X7_move.2.1 35 = .ok (.invokestatic 37, 3) := by decide +kernel
theorem d_X7_move_38 : decode mi_X7_move.2.1 38 = .ok (.ifCond .ne 5, 3) := by decide +kernel
theorem d_X7_move_41 : decode mi_X7_move.2.1 41 = .ok (.iconst (-1), 1) := by decide +kernel
theorem d_X7_move_42 : decode mi_X7_move.2.1 42 = .ok (.ireturn, 1) := by decide +kernel
theorem d_X7_move_43 : decode mi_X7_move.2.1 43 = .ok (.aload 4, 2) := by decide +kernel
theorem d_X7_move_45 : decode mi_X7_move.2.1 45 = .ok (.getfield 53, 3) := by decide +kernel
theorem d_X7_move_48 : decode mi_X7_move.2.1 48 = .ok (.iload_n 2, 1) := by decide +kernel
theorem d_X7_move_49 : decode mi_X7_move.2.1 49 = .ok (.iload_n 3, 1) := by decide +kernel
theorem d_X7_move_50 : decode mi_X7_move.2.1 50 = .ok (.invokevirtual 97, 3) := by decide +kernel
theorem d_X7_move_53 : decode mi_X7_move.2.1 53 = .ok (.ifCond .ne 5, 3) := by decide +kernel
theorem d_X7_move_56 : decode mi_X7_move.2.1 56 = .ok (.iconst (-1), 1) := by decide +kernel
theorem d_X7_move_57 : decode mi_X7_move.2.1 57 = .ok (.ireturn, 1) := by decide +kernel
theorem d_X7_move_58 : decode mi_X7_move.2.1 58 = .ok (.aload_n 0, 1) := by decide +kernel
theorem d_X7_move_59 : decode mi_X7_move.2.1 59 = .ok (.getfield 19, 3) := by decide +kernel
theorem d_X7_move_62 : decode mi_X7_move.2.1 62 = .ok (.iload_n 1, 1) := by decide +kernel
theorem d_X7_move_63 : decode mi_X7_move.2.1 63 = .ok (.aload 4, 2) := by decide +kernel
theorem d_X7_move_65 : decode mi_X7_move.2.1 65 = .ok (.getfield 53, 3) := by decide +kernel
theorem d_X7_move_68 : decode mi_X7_move.2.1 68 = .ok (.iconst (-1), 1) := by decide +kernel
theorem d_X7_move_69 : decode mi_X7_move.2.1 69 = .ok (.invokevirtual 75, 3) := by decide +kernel
theorem d_X7_move_72 : decode mi_X7_move.2.1 72 = .ok (.aload 4, 2) := by decide +kernel
theorem d_X7_move_74 : decode mi_X7_move.2.1 74 = .ok (.getfield 53, 3) := by decide +kernel
theorem d_X7_move_77 : decode mi_X7_move.2.1 77 = .ok (.iload_n 2, 1) := by decide +kernel
theorem d_X7_move_78 : decode mi_X7_move.2.1 78 = .ok (.iload_n 3, 1) := by decide +kernel
theorem d_X7_move_79 : decode mi_X7_move.2.1 79 = .ok (.invokevirtual 100, 3) := by decide +kernel
theorem d_X7_move_82 : decode mi_X7_move.2.1 82 = .ok (.iconst 1, 1) := by decide +kernel
theorem d_X7_move_83 : decode mi_X7_move.2.1 83 = .ok (.ireturn, 1) := by decide +kernel
theorem cs_m1000 : (Int16.ofInt (-1000)).toInt32 = -1000 := by decide
theorem cw_X7_97 : CV RX7 97 mi_X3_canShift 2 := by unfold CV; decide +kernel
theorem cw_X7_100 : CV RX7 100 mi_X3_shift 2 := by unfold CV; decide +kernel
def f_X7_move (v1 : Int32) (v2 : Int32) (v3 : Int32) (σ : SS) : Option (Int32 × SS) := cal (f_X6_find v1 σ) (fun q2 s1 => Option.elim q2 (some ((-1 : Int32), s1)) (fun i3 => cal (f_X7_isFrom v2 (-1000 : Int32) (1000 : Int32) s1) (fun x5 s4 => if x5 = 0 then (some ((-1 : Int32), s4)) else (cal (f_X7_isFrom v3 (-1000 : Int32) (1000 : Int32) s4) (fun x7 s6 => if x7 = 0 then (some ((-1 : Int32), s6)) else (cal (f_X3_canShift i3 v2 v3 s6) (fun x9 s8 => if x9 = 0 then (some ((-1 : Int32), s8)) else (cal (f_X2_keep v1 (some i3) (-1 : Int32) s8) (fun _ s10 => cal (f_X3_shift i3 v2 v3 s10) (fun _ s11 => some ((1 : Int32), s11)))))))))))
set_option maxRecDepth 20000 in
theorem t_X7_move {d : Nat} {b : Nat × Nat} {v1 : Int32} {v2 : Int32} {v3 : Int32} {σ : SS} {r : Int32} {σ' : SS} (h : f_X7_move v1 v2 v3 σ = some (r, σ')) : MM (d + 3) b mi_X7_move [vR 0 0, vI v1, vI v2, vI v3] σ (some (vI r), σ') := by
  refine MM.of (lv := [some (vR 0 0), some (vI v1), some (vI v2), some (vI v3), none]) (by decide +kernel) rfl rfl (fun X Y => ?_)
  rw [f_X7_move] at h
  refine r_aload_n (pc' := 1) d_X7_move_0 rfl rfl rfl ?_
  refine r_get (v := vR 1 _) (pc' := 4) fl_X7_10 d_X7_move_1 rfl rfl (fun g => Or.inl ⟨rfl, g.2⟩) rfl ?_
  refine r_iload_n (pc' := 5) d_X7_move_4 rfl rfl rfl ?_
  refine v1_o (t := 16) (mc := mi_X6_find) (bc := (0, 0)) (b' := _) (pc' := 8) cw_X7_79 d_X7_move_5 rfl rfl rfl (Nat.zero_add _).symm (Nat.zero_add _).symm rfl h (fun _ _ e => t_X6_find e) (fun q2 s1 h => ?_)
  refine r_astore (pc' := 10) d_X7_move_8 rfl rfl rfl ?_
  refine r_aload (pc' := 12) d_X7_move_10 rfl rfl ?_
  refine r_ifnull (pcT := 41) (pc' := 15) d_X7_move_12 rfl rfl h (fun e hn => ?_) (fun i3 e hn => ?_)
  · clear h; subst e; have h := hn; clear hn
    refine r_iconst (pc' := 42) d_X7_move_41 ci_m1 rfl ?_
    exact r_iret d_X7_move_42 rfl h
  · clear h; subst e; have h := hn; clear hn
    refine r_iload_n (pc' := 16) d_X7_move_15 rfl rfl rfl ?_
    refine r_sipush (pc' := 19) d_X7_move_16 cs_m1000 rfl ?_
    refine r_sipush (pc' := 22) d_X7_move_19 cs_1000 rfl ?_
    refine s3_i (mc := mi_X7_isFrom) (bc := (0, 0)) (b' := _) (pc' := 25) cw_X7_37 d_X7_move_22 rfl (Nat.zero_add _).symm (Nat.zero_add _).symm rfl h (fun _ _ e => t_X7_isFrom e) (fun x5 s4 h => ?_)
    refine r_if_eq (pcT := 41) (pc' := 28) d_X7_move_25 rfl rfl h (fun _ h => ?_) (fun _ h => ?_)
    · refine r_iconst (pc' := 42) d_X7_move_41 ci_m1 rfl ?_
      exact r_iret d_X7_move_42 rfl h
    · refine r_iload_n (pc' := 29) d_X7_move_28 rfl rfl rfl ?_
      refine r_sipush (pc' := 32) d_X7_move_29 cs_m1000 rfl ?_
      refine r_sipush (pc' := 35) d_X7_move_32 cs_1000 rfl ?_
      refine s3_i (mc := mi_X7_isFrom) (bc := (0, 0)) (b' := _) (pc' := 38) cw_X7_37 d_X7_move_35 rfl (Nat.zero_add _).symm (Nat.zero_add _).symm rfl h (fun _ _ e => t_X7_isFrom e) (fun x7 s6 h => ?_)
      refine r_if_ne (pcT := 43) (pc' := 41) d_X7_move_38 rfl rfl h (fun _ h => ?_) (fun _ h => ?_)
      · refine r_iconst (pc' := 42) d_X7_move_41 ci_m1 rfl ?_
        exact r_iret d_X7_move_42 rfl h
      · refine r_aload (pc' := 45) d_X7_move_43 rfl rfl ?_
        refine r_get (v := vR 17 _) (pc' := 48) fl_X7_53 d_X7_move_45 rfl rfl (fun g => Or.inl ⟨rfl, g.2⟩) rfl ?_
        refine r_iload_n (pc' := 49) d_X7_move_48 rfl rfl rfl ?_
        refine r_iload_n (pc' := 50) d_X7_move_49 rfl rfl rfl ?_
        refine v2_i (mc := mi_X3_canShift) (bc := (0, 0)) (b' := _) (pc' := 53) cw_X7_97 d_X7_move_50 rfl rfl rfl (Nat.zero_add _).symm (Nat.zero_add _).symm rfl h (fun _ _ e => t_X3_canShift e) (fun x9 s8 h => ?_)
        refine r_if_ne (pcT := 58) (pc' := 56) d_X7_move_53 rfl rfl h (fun _ h => ?_) (fun _ h => ?_)
        · refine r_iconst (pc' := 57) d_X7_move_56 ci_m1 rfl ?_
          exact r_iret d_X7_move_57 rfl h
        · refine r_aload_n (pc' := 59) d_X7_move_58 rfl rfl rfl ?_
          refine r_get (v := vR 3 _) (pc' := 62) fl_X7_19 d_X7_move_59 rfl rfl (fun g => Or.inl ⟨rfl, g.2⟩) rfl ?_
          refine r_iload_n (pc' := 63) d_X7_move_62 rfl rfl rfl ?_
          refine r_aload (pc' := 65) d_X7_move_63 rfl rfl ?_
          refine r_get (v := vR 17 _) (pc' := 68) fl_X7_53 d_X7_move_65 rfl rfl (fun g => Or.inl ⟨rfl, g.2⟩) rfl ?_
          refine r_iconst (pc' := 69) d_X7_move_68 ci_m1 rfl ?_
          refine v3_v (mc := mi_X2_keep) (bc := (0, 0)) (b' := _) (pc' := 72) cw_X7_75 d_X7_move_69 rfl rfl rfl (Nat.zero_add _).symm (Nat.zero_add _).symm rfl h (fun _ _ e => t_X2_keep e) (fun _ s10 h => ?_)
          refine r_aload (pc' := 74) d_X7_move_72 rfl rfl ?_
          refine r_get (v := vR 17 _) (pc' := 77) fl_X7_53 d_X7_move_74 rfl rfl (fun g => Or.inl ⟨rfl, g.2⟩) rfl ?_
          refine r_iload_n (pc' := 78) d_X7_move_77 rfl rfl rfl ?_
          refine r_iload_n (pc' := 79) d_X7_move_78 rfl rfl rfl ?_
          refine v2_v (mc := mi_X3_shift) (bc := (0, 0)) (b' := _) (pc' := 82) cw_X7_100 d_X7_move_79 rfl rfl rfl (Nat.zero_add _).symm (Nat.zero_add _).symm rfl h (fun _ _ e => t_X3_shift e) (fun _ s11 h => ?_)
          refine r_iconst (pc' := 83) d_X7_move_82 ci_1 rfl ?_
          exact r_iret d_X7_move_83 rfl h
/-! OctagonYard.turn(II)I -/
def mi_X7_turn : MI := (yX7_turn, cX7_turn, 4, (some .int))
theorem d_X7_turn_0 : decode mi_X7_turn.2.1 0 = .ok (.aload_n 0, 1) := by decide +kernel
theorem d_X7_turn_1 : decode mi_X7_turn.2.1 1 = .ok (.getfield 10, 3) := by decide +kernel
theorem d_X7_turn_4 : decode mi_X7_turn.2.1 4 = .ok (.iload_n 1, 1) := by decide +kernel
theorem d_X7_turn_5 : decode mi_X7_turn.2.1 5 = .ok (.invokevirtual 79, 3) := by decide +kernel
theorem d_X7_turn_8 : decode mi_X7_turn.2.1 8 = .ok (.astore_n 3, 1) := by decide +kernel
theorem d_X7_turn_9 : decode mi_X7_turn.2.1 9 = .ok (.aload_n 3, 1) := by decide +kernel
theorem d_X7_turn_10 : decode mi_X7_turn.2.1 10 = .ok (.ifnull 12, 3) := by decide +kernel
theorem d_X7_turn_13 : decode mi_X7_turn.2.1 13 = .ok (.iload_n 2, 1) := by decide +kernel
theorem d_X7_turn_14 : decode mi_X7_turn.2.1 14 = .ok (.iconst 0, 1) := by decide +kernel
theorem d_X7_turn_15 : decode mi_X7_turn.2.1 15 = .ok (.iconst 2, 1) := by decide +kernel
theorem d_X7_turn_16 : decode mi_X7_turn.2.1 16 = .ok (.invokestatic 37, 3) := by decide +kernel
theorem d_X7_turn_19 : decode mi_X7_turn.2.1 19 = .ok (.ifCond .ne 5, 3) := by decide +kernel
theorem d_X7_turn_22 : decode mi_X7_turn.2.1 22 = .ok (.iconst (-1), 1) := by decide +kernel
theorem d_X7_turn_23 : decode mi_X7_turn.2.1 23 = .ok (.ireturn, 1) := by decide +kernel
theorem d_X7_turn_24 : decode mi_X7_turn.2.1 24 = .ok (.aload_n 0, 1) := by decide +kernel
theorem d_X7_turn_25 : decode mi_X7_turn.2.1 25 = .ok (.getfield 19, 3) := by decide +kernel
theorem d_X7_turn_28 : decode mi_X7_turn.2.1 28 = .ok (.iload_n 1, 1) := by decide +kernel
theorem d_X7_turn_29 : decode mi_X7_turn.2.1 29 = .ok (.aload_n 3, 1) := by decide +kernel
theorem d_X7_turn_30 : decode mi_X7_turn.2.1 30 = .ok (.getfield 53, 3) := by decide +kernel
theorem d_X7_turn_33 : decode mi_X7_turn.2.1 33 = .ok (.iconst (-1), 1) := by decide +kernel
theorem d_X7_turn_34 : decode mi_X7_turn.2.1 34 = .ok (.invokevirtual 75, 3) := by decide +kernel
theorem d_X7_turn_37 : decode mi_X7_turn.2.1 37 = .ok (.aload_n 3, 1) := by decide +kernel
theorem d_X7_turn_38 : decode mi_X7_turn.2.1 38 = .ok (.getfield 53, 3) := by decide +kernel
theorem d_X7_turn_41 : decode mi_X7_turn.2.1 41 = .ok (.iload_n 2, 1) := by decide +kernel
theorem d_X7_turn_42 : decode mi_X7_turn.2.1 42 = .ok (.invokevirtual 103, 3) := by decide +kernel
theorem d_X7_turn_45 : decode mi_X7_turn.2.1 45 = .ok (.iconst 1, 1) := by decide +kernel
theorem d_X7_turn_46 : decode mi_X7_turn.2.1 46 = .ok (.ireturn, 1) := by decide +kernel
theorem cw_X7_103 : CV RX7 103 mi_X3_swing 1 := by unfold CV; decide +kernel
def f_X7_turn (v1 : Int32) (v2 : Int32) (σ : SS) : Option (Int32 × SS) := cal (f_X6_find v1 σ) (fun q2 s1 => Option.elim q2 (some ((-1 : Int32), s1)) (fun i3 => cal (f_X7_isFrom v2 (0 : Int32) (2 : Int32) s1) (fun x5 s4 => if x5 = 0 then (some ((-1 : Int32), s4)) else (cal (f_X2_keep v1 (some i3) (-1 : Int32) s4) (fun _ s6 => cal (f_X3_swing i3 v2 s6) (fun _ s7 => some ((1 : Int32), s7)))))))
set_option maxRecDepth 20000 in
theorem t_X7_turn {d : Nat} {b : Nat × Nat} {v1 : Int32} {v2 : Int32} {σ : SS} {r : Int32} {σ' : SS} (h : f_X7_turn v1 v2 σ = some (r, σ')) : MM (d + 3) b mi_X7_turn [vR 0 0, vI v1, vI v2] σ (some (vI r), σ') := by
  refine MM.of (lv := [some (vR 0 0), some (vI v1), some (vI v2), none]) (by decide +kernel) rfl rfl (fun X Y => ?_)
  rw [f_X7_turn] at h
  refine r_aload_n (pc' := 1) d_X7_turn_0 rfl rfl rfl ?_
  refine r_get (v := vR 1 _) (pc' := 4) fl_X7_10 d_X7_turn_1 rfl rfl (fun g => Or.inl ⟨rfl, g.2⟩) rfl ?_
  refine r_iload_n (pc' := 5) d_X7_turn_4 rfl rfl rfl ?_
  refine v1_o (t := 16) (mc := mi_X6_find) (bc := (0, 0)) (b' := _) (pc' := 8) cw_X7_79 d_X7_turn_5 rfl rfl rfl (Nat.zero_add _).symm (Nat.zero_add _).symm rfl h (fun _ _ e => t_X6_find e) (fun q2 s1 h => ?_)
  refine r_astore_n (pc' := 9) d_X7_turn_8 rfl rfl rfl rfl ?_
  refine r_aload_n (pc' := 10) d_X7_turn_9 rfl rfl rfl ?_
  refine r_ifnull (pcT := 22) (pc' := 13) d_X7_turn_10 rfl rfl h (fun e hn => ?_) (fun i3 e hn => ?_)
  · clear h; subst e; have h := hn; clear hn
    refine r_iconst (pc' := 23) d_X7_turn_22 ci_m1 rfl ?_
    exact r_iret d_X7_turn_23 rfl h
  · clear h; subst e; have h := hn; clear hn
    refine r_iload_n (pc' := 14) d_X7_turn_13 rfl rfl rfl ?_
    refine r_iconst (pc' := 15) d_X7_turn_14 ci_0 rfl ?_
    refine r_iconst (pc' := 16) d_X7_turn_15 ci_2 rfl ?_
    refine s3_i (mc := mi_X7_isFrom) (bc := (0, 0)) (b' := _) (pc' := 19) cw_X7_37 d_X7_turn_16 rfl (Nat.zero_add _).symm (Nat.zero_add _).symm rfl h (fun _ _ e => t_X7_isFrom e) (fun x5 s4 h => ?_)
    refine r_if_ne (pcT := 24) (pc' := 22) d_X7_turn_19 rfl rfl h (fun _ h => ?_) (fun _ h => ?_)
    · refine r_iconst (pc' := 23) d_X7_turn_22 ci_m1 rfl ?_
      exact r_iret d_X7_turn_23 rfl h
    · refine r_aload_n (pc' := 25) d_X7_turn_24 rfl rfl rfl ?_
      refine r_get (v := vR 3 _) (pc' := 28) fl_X7_19 d_X7_turn_25 rfl rfl (fun g => Or.inl ⟨rfl, g.2⟩) rfl ?_
      refine r_iload_n (pc' := 29) d_X7_turn_28 rfl rfl rfl ?_
      refine r_aload_n (pc' := 30) d_X7_turn_29 rfl rfl rfl ?_
      refine r_get (v := vR 17 _) (pc' := 33) fl_X7_53 d_X7_turn_30 rfl rfl (fun g => Or.inl ⟨rfl, g.2⟩) rfl ?_
      refine r_iconst (pc' := 34) d_X7_turn_33 ci_m1 rfl ?_
      refine v3_v (mc := mi_X2_keep) (bc := (0, 0)) (b' := _) (pc' := 37) cw_X7_75 d_X7_turn_34 rfl rfl rfl (Nat.zero_add _).symm (Nat.zero_add _).symm rfl h (fun _ _ e => t_X2_keep e) (fun _ s6 h => ?_)
      refine r_aload_n (pc' := 38) d_X7_turn_37 rfl rfl rfl ?_
      refine r_get (v := vR 17 _) (pc' := 41) fl_X7_53 d_X7_turn_38 rfl rfl (fun g => Or.inl ⟨rfl, g.2⟩) rfl ?_
      refine r_iload_n (pc' := 42) d_X7_turn_41 rfl rfl rfl ?_
      refine v1_v (mc := mi_X3_swing) (bc := (0, 0)) (b' := _) (pc' := 45) cw_X7_103 d_X7_turn_42 rfl rfl rfl (Nat.zero_add _).symm (Nat.zero_add _).symm rfl h (fun _ _ e => t_X3_swing e) (fun _ s7 h => ?_)
      refine r_iconst (pc' := 46) d_X7_turn_45 ci_1 rfl ?_
      exact r_iret d_X7_turn_46 rfl h
/-! OctagonYard.scrap(I)I -/
def mi_X7_scrap : MI := (yX7_scrap, cX7_scrap, 3, (some .int))
theorem d_X7_scrap_0 : decode mi_X7_scrap.2.1 0 = .ok (.aload_n 0, 1) := by decide +kernel
theorem d_X7_scrap_1 : decode mi_X7_scrap.2.1 1 = .ok (.getfield 10, 3) := by decide +kernel
theorem d_X7_scrap_4 : decode mi_X7_scrap.2.1 4 = .ok (.iload_n 1, 1) := by decide +kernel
theorem d_X7_scrap_5 : decode mi_X7_scrap.2.1 5 = .ok (.invokevirtual 79, 3) := by decide +kernel
theorem d_X7_scrap_8 : decode mi_X7_scrap.2.1 8 = .ok (.astore_n 2, 1) := by decide +kernel
theorem d_X7_scrap_9 : decode mi_X7_scrap.2.1 9 = .ok (.aload_n 2, 1) := by decide +kernel
theorem d_X7_scrap_10 : decode mi_X7_scrap.2.1 10 = .ok (.ifnonnull 5, 3) := by decide +kernel
theorem d_X7_scrap_13 : decode mi_X7_scrap.2.1 13 = .ok (.iconst (-1), 1) := by decide +kernel
theorem d_X7_scrap_14 : decode mi_X7_scrap.2.1 14 = .ok (.ireturn, 1) := by decide +kernel
theorem d_X7_scrap_15 : decode mi_X7_scrap.2.1 15 = .ok (.aload_n 0, 1) := by decide +kernel
theorem d_X7_scrap_16 : decode mi_X7_scrap.2.1 16 = .ok (.getfield 33, 3) := by decide +kernel
theorem d_X7_scrap_19 : decode mi_X7_scrap.2.1 19 = .ok (.iload_n 1, 1) := by decide +kernel
theorem d_X7_scrap_20 : decode mi_X7_scrap.2.1 20 = .ok (.invokevirtual 107, 3) := by decide +kernel
theorem d_X7_scrap_23 : decode mi_X7_scrap.2.1 23 = .ok (.ifCond .eq 6, 3) := by decide +kernel
theorem d_X7_scrap_26 : decode mi_X7_scrap.2.1 26 = .ok (.bipush (-2), 2) := by decide +kernel
theorem d_X7_scrap_28 : decode mi_X7_scrap.2.1 28 = .ok (.ireturn, 1) := by decide +kernel
theorem d_X7_scrap_29 : decode mi_X7_scrap.2.1 29 = .ok (.aload_n 0, 1) := by decide +kernel
theorem d_X7_scrap_30 : decode mi_X7_scrap.2.1 30 = .ok (.getfield 19, 3) := by decide +kernel
theorem d_X7_scrap_33 : decode mi_X7_scrap.2.1 33 = .ok (.iload_n 1, 1) := by decide +kernel
theorem d_X7_scrap_34 : decode mi_X7_scrap.2.1 34 = .ok (.aload_n 2, 1) := by decide +kernel
theorem d_X7_scrap_35 : decode mi_X7_scrap.2.1 35 = .ok (.getfield 53, 3) := by decide +kernel
theorem d_X7_scrap_38 : decode mi_X7_scrap.2.1 38 = .ok (.iconst (-1), 1) := by decide +kernel
theorem d_X7_scrap_39 : decode mi_X7_scrap.2.1 39 = .ok (.invokevirtual 75, 3) := by decide +kernel
theorem d_X7_scrap_42 : decode mi_X7_scrap.2.1 42 = .ok (.aload_n 2, 1) := by decide +kernel
theorem d_X7_scrap_43 : decode mi_X7_scrap.2.1 43 = .ok (.iconst 0, 1) := by decide +kernel
theorem d_X7_scrap_44 : decode mi_X7_scrap.2.1 44 = .ok (.putfield 111, 3) := by decide +kernel
theorem d_X7_scrap_47 : decode mi_X7_scrap.2.1 47 = .ok (.iconst 1, 1) := by decide +kernel
theorem d_X7_scrap_48 : decode mi_X7_scrap.2.1 48 = .ok (.ireturn, 1) := by decide +kernel
theorem fl_X7_33 : FL RX7 33 7 4 3 := ⟨RX7, TX7, rfl, by decide, rfl, by decide +kernel, in_7⟩
theorem fl_X7_111 : FL RX7 111 4 5 4 := ⟨RX4, TX4, rfl, by decide, rfl, by decide +kernel, in_4⟩
theorem cw_X7_107 : CV RX7 107 mi_X0_hold 1 := by unfold CV; decide +kernel
def f_X7_scrap (v1 : Int32) (σ : SS) : Option (Int32 × SS) := cal (f_X6_find v1 σ) (fun q2 s1 => Option.elim q2 (some ((-1 : Int32), s1)) (fun i3 => cal (f_X0_hold v1 s1) (fun x5 s4 => if x5 = 0 then (cal (f_X2_keep v1 (some i3) (-1 : Int32) s4) (fun _ s6 => lt_ (up s6 16 i3 4 (0 : Int32)) (fun s7 => some ((1 : Int32), s7)))) else (some ((-2 : Int32), s4)))))
set_option maxRecDepth 20000 in
theorem t_X7_scrap {d : Nat} {b : Nat × Nat} {v1 : Int32} {σ : SS} {r : Int32} {σ' : SS} (h : f_X7_scrap v1 σ = some (r, σ')) : MM (d + 3) b mi_X7_scrap [vR 0 0, vI v1] σ (some (vI r), σ') := by
  refine MM.of (lv := [some (vR 0 0), some (vI v1), none]) (by decide +kernel) rfl rfl (fun X Y => ?_)
  rw [f_X7_scrap] at h
  refine r_aload_n (pc' := 1) d_X7_scrap_0 rfl rfl rfl ?_
  refine r_get (v := vR 1 _) (pc' := 4) fl_X7_10 d_X7_scrap_1 rfl rfl (fun g => Or.inl ⟨rfl, g.2⟩) rfl ?_
  refine r_iload_n (pc' := 5) d_X7_scrap_4 rfl rfl rfl ?_
  refine v1_o (t := 16) (mc := mi_X6_find) (bc := (0, 0)) (b' := _) (pc' := 8) cw_X7_79 d_X7_scrap_5 rfl rfl rfl (Nat.zero_add _).symm (Nat.zero_add _).symm rfl h (fun _ _ e => t_X6_find e) (fun q2 s1 h => ?_)
  refine r_astore_n (pc' := 9) d_X7_scrap_8 rfl rfl rfl rfl ?_
  refine r_aload_n (pc' := 10) d_X7_scrap_9 rfl rfl rfl ?_
  refine r_ifnonnull (pcT := 15) (pc' := 13) d_X7_scrap_10 rfl rfl h (fun e hn => ?_) (fun i3 e hn => ?_)
  · clear h; subst e; have h := hn; clear hn
    refine r_iconst (pc' := 14) d_X7_scrap_13 ci_m1 rfl ?_
    exact r_iret d_X7_scrap_14 rfl h
  · clear h; subst e; have h := hn; clear hn
    refine r_aload_n (pc' := 16) d_X7_scrap_15 rfl rfl rfl ?_
    refine r_get (v := vR 12 _) (pc' := 19) fl_X7_33 d_X7_scrap_16 rfl rfl (fun g => Or.inl ⟨rfl, g.2⟩) rfl ?_
    refine r_iload_n (pc' := 20) d_X7_scrap_19 rfl rfl rfl ?_
    refine v1_i (mc := mi_X0_hold) (bc := (0, 0)) (b' := _) (pc' := 23) cw_X7_107 d_X7_scrap_20 rfl rfl rfl (Nat.zero_add _).symm (Nat.zero_add _).symm rfl h (fun _ _ e => t_X0_hold e) (fun x5 s4 h => ?_)
    refine r_if_eq (pcT := 29) (pc' := 26) d_X7_scrap_23 rfl rfl h (fun _ h => ?_) (fun _ h => ?_)
    · refine r_aload_n (pc' := 30) d_X7_scrap_29 rfl rfl rfl ?_
      refine r_get (v := vR 3 _) (pc' := 33) fl_X7_19 d_X7_scrap_30 rfl rfl (fun g => Or.inl ⟨rfl, g.2⟩) rfl ?_
      refine r_iload_n (pc' := 34) d_X7_scrap_33 rfl rfl rfl ?_
      refine r_aload_n (pc' := 35) d_X7_scrap_34 rfl rfl rfl ?_
      refine r_get (v := vR 17 _) (pc' := 38) fl_X7_53 d_X7_scrap_35 rfl rfl (fun g => Or.inl ⟨rfl, g.2⟩) rfl ?_
      refine r_iconst (pc' := 39) d_X7_scrap_38 ci_m1 rfl ?_
      refine v3_v (mc := mi_X2_keep) (bc := (0, 0)) (b' := _) (pc' := 42) cw_X7_75 d_X7_scrap_39 rfl rfl rfl (Nat.zero_add _).symm (Nat.zero_add _).symm rfl h (fun _ _ e => t_X2_keep e) (fun _ s6 h => ?_)
      refine r_aload_n (pc' := 43) d_X7_scrap_42 rfl rfl rfl ?_
      refine r_iconst (pc' := 44) d_X7_scrap_43 ci_0 rfl ?_
      refine l_put (k := 4) (pc' := 47) fl_X7_111 fw_4_4 (narrow_z (Or.inl rfl)) (fits_z (Or.inl rfl)) d_X7_scrap_44 rfl (by decide) (by decide) rfl rfl h (fun s7 h => ?_)
      refine r_iconst (pc' := 48) d_X7_scrap_47 ci_1 rfl ?_
      exact r_iret d_X7_scrap_48 rfl h
    · refine r_bipush (pc' := 28) d_X7_scrap_26 cb_m2 rfl ?_
      exact r_iret d_X7_scrap_28 rfl h
/-! OctagonYard.bound(II)I -/
def mi_X7_bound : MI := (yX7_bound, cX7_bound, 4, (some .int))
theorem d_X7_bound_0 : decode mi_X7_bound.2.1 0 = .ok (.aload_n 0, 1) := by decide +kernel
theorem d_X7_bound_1 : decode mi_X7_bound.2.1 1 = .ok (.getfield 10, 3) := by decide +kernel
theorem d_X7_bound_4 : decode mi_X7_bound.2.1 4 = .ok (.iload_n 1, 1) := by decide +kernel
theorem d_X7_bound_5 : decode mi_X7_bound.2.1 5 = .ok (.invokevirtual 79, 3) := by decide +kernel
theorem d_X7_bound_8 : decode mi_X7_bound.2.1 8 = .ok (.astore_n 3, 1) := by decide +kernel
theorem d_X7_bound_9 : decode mi_X7_bound.2.1 9 = .ok (.aload_n 3, 1) := by decide +kernel
theorem d_X7_bound_10 : decode mi_X7_bound.2.1 10 = .ok (.ifnull 13, 3) := by decide +kernel
theorem d_X7_bound_13 : decode mi_X7_bound.2.1 13 = .ok (.iload_n 2, 1) := by decide +kernel
theorem d_X7_bound_14 : decode mi_X7_bound.2.1 14 = .ok (.iconst 0, 1) := by decide +kernel
theorem d_X7_bound_15 : decode mi_X7_bound.2.1 15 = .ok (.bipush 7, 2) := by decide +kernel
theorem d_X7_bound_17 : decode mi_X7_bound.2.1 17 = .ok (.invokestatic 37, 3) := by decide +kernel
theorem d_X7_bound_20 : decode mi_X7_bound.2.1 20 = .ok (.ifCond .ne 6, 3) := by decide +kernel
theorem d_X7_bound_23 : decode mi_X7_bound.2.1 23 = .ok (.ldc 115, 2) := by decide +kernel
theorem d_X7_bound_25 : decode mi_X7_bound.2.1 25 = .ok (.ireturn, 1) := by decide +kernel
theorem d_X7_bound_26 : decode mi_X7_bound.2.1 26 = .ok (.aload_n 3, 1) := by decide +kernel
theorem d_X7_bound_27 : decode mi_X7_bound.2.1 27 = .ok (.getfield 53, 3) := by decide +kernel
theorem d_X7_bound_30 : decode mi_X7_bound.2.1 30 = .ok (.iload_n 2, 1) := by decide +kernel
theorem d_X7_bound_31 : decode mi_X7_bound.2.1 31 = .ok (.invokevirtual 116, 3) := by decide +kernel
theorem d_X7_bound_34 : decode mi_X7_bound.2.1 34 = .ok (.ireturn, 1) := by decide +kernel
theorem cb_7 : (Int8.ofInt (7)).toInt32 = 7 := by decide
theorem k_X7_115 : Cond.constant RX7 115 (100000) ∈ mtbl := by decide +kernel
theorem cw_X7_116 : CV RX7 116 mi_X3_wholeReach 1 := by unfold CV; decide +kernel
def f_X7_bound (v1 : Int32) (v2 : Int32) (σ : SS) : Option (Int32 × SS) := cal (f_X6_find v1 σ) (fun q2 s1 => Option.elim q2 (some ((100000 : Int32), s1)) (fun i3 => cal (f_X7_isFrom v2 (0 : Int32) (7 : Int32) s1) (fun x5 s4 => if x5 = 0 then (some ((100000 : Int32), s4)) else (cal (f_X3_wholeReach i3 v2 s4) (fun x7 s6 => some (x7, s6))))))
set_option maxRecDepth 20000 in
theorem t_X7_bound {d : Nat} {b : Nat × Nat} {v1 : Int32} {v2 : Int32} {σ : SS} {r : Int32} {σ' : SS} (h : f_X7_bound v1 v2 σ = some (r, σ')) : MM (d + 3) b mi_X7_bound [vR 0 0, vI v1, vI v2] σ (some (vI r), σ') := by
  refine MM.of (lv := [some (vR 0 0), some (vI v1), some (vI v2), none]) (by decide +kernel) rfl rfl (fun X Y => ?_)
  rw [f_X7_bound] at h
  refine r_aload_n (pc' := 1) d_X7_bound_0 rfl rfl rfl ?_
  refine r_get (v := vR 1 _) (pc' := 4) fl_X7_10 d_X7_bound_1 rfl rfl (fun g => Or.inl ⟨rfl, g.2⟩) rfl ?_
  refine r_iload_n (pc' := 5) d_X7_bound_4 rfl rfl rfl ?_
  refine v1_o (t := 16) (mc := mi_X6_find) (bc := (0, 0)) (b' := _) (pc' := 8) cw_X7_79 d_X7_bound_5 rfl rfl rfl (Nat.zero_add _).symm (Nat.zero_add _).symm rfl h (fun _ _ e => t_X6_find e) (fun q2 s1 h => ?_)
  refine r_astore_n (pc' := 9) d_X7_bound_8 rfl rfl rfl rfl ?_
  refine r_aload_n (pc' := 10) d_X7_bound_9 rfl rfl rfl ?_
  refine r_ifnull (pcT := 23) (pc' := 13) d_X7_bound_10 rfl rfl h (fun e hn => ?_) (fun i3 e hn => ?_)
  · clear h; subst e; have h := hn; clear hn
    refine r_ldc (pc' := 25) k_X7_115 d_X7_bound_23 rfl ?_
    exact r_iret d_X7_bound_25 rfl h
  · clear h; subst e; have h := hn; clear hn
    refine r_iload_n (pc' := 14) d_X7_bound_13 rfl rfl rfl ?_
    refine r_iconst (pc' := 15) d_X7_bound_14 ci_0 rfl ?_
    refine r_bipush (pc' := 17) d_X7_bound_15 cb_7 rfl ?_
    refine s3_i (mc := mi_X7_isFrom) (bc := (0, 0)) (b' := _) (pc' := 20) cw_X7_37 d_X7_bound_17 rfl (Nat.zero_add _).symm (Nat.zero_add _).symm rfl h (fun _ _ e => t_X7_isFrom e) (fun x5 s4 h => ?_)
    refine r_if_ne (pcT := 26) (pc' := 23) d_X7_bound_20 rfl rfl h (fun _ h => ?_) (fun _ h => ?_)
    · refine r_ldc (pc' := 25) k_X7_115 d_X7_bound_23 rfl ?_
      exact r_iret d_X7_bound_25 rfl h
    · refine r_aload_n (pc' := 27) d_X7_bound_26 rfl rfl rfl ?_
      refine r_get (v := vR 17 _) (pc' := 30) fl_X7_53 d_X7_bound_27 rfl rfl (fun g => Or.inl ⟨rfl, g.2⟩) rfl ?_
      refine r_iload_n (pc' := 31) d_X7_bound_30 rfl rfl rfl ?_
      refine v1_i (mc := mi_X3_wholeReach) (bc := (0, 0)) (b' := _) (pc' := 34) cw_X7_116 d_X7_bound_31 rfl rfl rfl (Nat.zero_add _).symm (Nat.zero_add _).symm rfl h (fun _ _ e => t_X3_wholeReach e) (fun x7 s6 h => ?_)
      exact r_iret d_X7_bound_34 rfl h
/-! OctagonYard.about(II)I -/
def mi_X7_about : MI := (yX7_about, cX7_about, 4, (some .int))
theorem d_X7_about_0 : decode mi_X7_about.2.1 0 = .ok (.aload_n 0, 1) := by decide +kernel
theorem d_X7_about_1 : decode mi_X7_about.2.1 1 = .ok (.getfield 10, 3) := by decide +kernel
theorem d_X7_about_4 : decode mi_X7_about.2.1 4 = .ok (.iload_n 1, 1) := by decide +kernel
theorem d_X7_about_5 : decode mi_X7_about.2.1 5 = .ok (.invokevirtual 79, 3) := by decide +kernel
theorem d_X7_about_8 : decode mi_X7_about.2.1 8 = .ok (.astore_n 3, 1) := by decide +kernel
theorem d_X7_about_9 : decode mi_X7_about.2.1 9 = .ok (.aload_n 3, 1) := by decide +kernel
theorem d_X7_about_10 : decode mi_X7_about.2.1 10 = .ok (.ifnonnull 5, 3) := by decide +kernel
theorem d_X7_about_13 : decode mi_X7_about.2.1 13 = .ok (.iconst (-1), 1) := by decide +kernel
theorem d_X7_about_14 : decode mi_X7_about.2.1 14 = .ok (.ireturn, 1) := by decide +kernel
theorem d_X7_about_15 : decode mi_X7_about.2.1 15 = .ok (.iload_n 2, 1) := by decide +kernel
theorem d_X7_about_16 : decode mi_X7_about.2.1 16 = .ok (.tableswitch 73 0 4 #[36, 44, 52, 57, 62], 36) := by decide +kernel
theorem d_X7_about_52 : decode mi_X7_about.2.1 52 = .ok (.aload_n 3, 1) := by decide +kernel
theorem d_X7_about_53 : decode mi_X7_about.2.1 53 = .ok (.getfield 53, 3) := by decide +kernel
theorem d_X7_about_56 : decode mi_X7_about.2.1 56 = .ok (.invokevirtual 120, 3) := by decide +kernel
theorem d_X7_about_59 : decode mi_X7_about.2.1 59 = .ok (.ireturn, 1) := by decide +kernel
theorem d_X7_about_60 : decode mi_X7_about.2.1 60 = .ok (.aload_n 3, 1) := by decide +kernel
theorem d_X7_about_61 : decode mi_X7_about.2.1 61 = .ok (.getfield 53, 3) := by decide +kernel
theorem d_X7_about_64 : decode mi_X7_about.2.1 64 = .ok (.getfield 123, 3) := by decide +kernel
theorem d_X7_about_67 : decode mi_X7_about.2.1 67 = .ok (.ireturn, 1) := by decide +kernel
theorem d_X7_about_68 : decode mi_X7_about.2.1 68 = .ok (.aload_n 3, 1) := by decide +kernel
theorem d_X7_about_69 : decode mi_X7_about.2.1 69 = .ok (.getfield 90, 3) := by decide +kernel
theorem d_X7_about_72 : decode mi_X7_about.2.1 72 = .ok (.ireturn, 1) := by decide +kernel
theorem d_X7_about_73 : decode mi_X7_about.2.1 73 = .ok (.aload_n 3, 1) := by decide +kernel
theorem d_X7_about_74 : decode mi_X7_about.2.1 74 = .ok (.getfield 87, 3) := by decide +kernel
theorem d_X7_about_77 : decode mi_X7_about.2.1 77 = .ok (.ireturn, 1) := by decide +kernel
theorem d_X7_about_78 : decode mi_X7_about.2.1 78 = .ok (.aload_n 3, 1) := by decide +kernel
theorem d_X7_about_79 : decode mi_X7_about.2.1 79 = .ok (.getfield 53, 3) := by decide +kernel
theorem d_X7_about_82 : decode mi_X7_about.2.1 82 = .ok (.invokevirtual 120, 3) := by decide +kernel
theorem d_X7_about_85 : decode mi_X7_about.2.1 85 = .ok (.invokestatic 126, 3) := by decide +kernel
theorem d_X7_about_88 : decode mi_X7_about.2.1 88 = .ok (.ireturn, 1) := by decide +kernel
theorem d_X7_about_89 : decode mi_X7_about.2.1 89 = .ok (.iconst (-1), 1) := by decide +kernel
theorem d_X7_about_90 : decode mi_X7_about.2.1 90 = .ok (.ireturn, 1) := by decide +kernel
theorem fl_X7_123 : FL RX7 123 3 5 4 := ⟨RX3, TX3, rfl, by decide, rfl, by decide +kernel, in_3⟩
theorem cw_X7_120 : CV RX7 120 mi_X3_kind 0 := by unfold CV; decide +kernel
theorem cw_X7_126 : CT RX7 126 mi_X7_familyOf 1 := by unfold CT; decide +kernel
def f_X7_about (v1 : Int32) (v2 : Int32) (σ : SS) : Option (Int32 × SS) := cal (f_X6_find v1 σ) (fun q2 s1 => Option.elim q2 (some ((-1 : Int32), s1)) (fun i3 => if v2 = 0 then (cal (f_X3_kind i3 s1) (fun x6 s5 => some (x6, s5))) else (if v2 = 1 then (some ((s1.1 17 i3 4), s1)) else (if v2 = 2 then (some ((s1.1 16 i3 1), s1)) else (if v2 = 3 then (some ((s1.1 16 i3 2), s1)) else (if v2 = 4 then (cal (f_X3_kind i3 s1) (fun x12 s11 => cal (f_X7_familyOf x12 s11) (fun x14 s13 => some (x14, s13)))) else (some ((-1 : Int32), s1))))))))
set_option maxRecDepth 20000 in
theorem t_X7_about {d : Nat} {b : Nat × Nat} {v1 : Int32} {v2 : Int32} {σ : SS} {r : Int32} {σ' : SS} (h : f_X7_about v1 v2 σ = some (r, σ')) : MM (d + 3) b mi_X7_about [vR 0 0, vI v1, vI v2] σ (some (vI r), σ') := by
  refine MM.of (lv := [some (vR 0 0), some (vI v1), some (vI v2), none]) (by decide +kernel) rfl rfl (fun X Y => ?_)
  rw [f_X7_about] at h
  refine r_aload_n (pc' := 1) d_X7_about_0 rfl rfl rfl ?_
  refine r_get (v := vR 1 _) (pc' := 4) fl_X7_10 d_X7_about_1 rfl rfl (fun g => Or.inl ⟨rfl, g.2⟩) rfl ?_
  refine r_iload_n (pc' := 5) d_X7_about_4 rfl rfl rfl ?_
  refine v1_o (t := 16) (mc := mi_X6_find) (bc := (0, 0)) (b' := _) (pc' := 8) cw_X7_79 d_X7_about_5 rfl rfl rfl (Nat.zero_add _).symm (Nat.zero_add _).symm rfl h (fun _ _ e => t_X6_find e) (fun q2 s1 h => ?_)
  refine r_astore_n (pc' := 9) d_X7_about_8 rfl rfl rfl rfl ?_
  refine r_aload_n (pc' := 10) d_X7_about_9 rfl rfl rfl ?_
  refine r_ifnonnull (pcT := 15) (pc' := 13) d_X7_about_10 rfl rfl h (fun e hn => ?_) (fun i3 e hn => ?_)
  · clear h; subst e; have h := hn; clear hn
    refine r_iconst (pc' := 14) d_X7_about_13 ci_m1 rfl ?_
    exact r_iret d_X7_about_14 rfl h
  · clear h; subst e; have h := hn; clear hn
    refine r_iload_n (pc' := 16) d_X7_about_15 rfl rfl rfl ?_
    refine ite_c h (fun c4 h => ?_) (fun c4 h => ?_)
    · refine r_tswIn (c := 0) (off := 36) (pc' := 52) d_X7_about_16 c4 (by decide) (by decide) (by decide) rfl ?_
      refine r_aload_n (pc' := 53) d_X7_about_52 rfl rfl rfl ?_
      refine r_get (v := vR 17 _) (pc' := 56) fl_X7_53 d_X7_about_53 rfl rfl (fun g => Or.inl ⟨rfl, g.2⟩) rfl ?_
      refine v0_i (mc := mi_X3_kind) (bc := (0, 0)) (b' := _) (pc' := 59) cw_X7_120 d_X7_about_56 rfl rfl rfl (Nat.zero_add _).symm (Nat.zero_add _).symm rfl h (fun _ _ e => t_X3_kind e) (fun x6 s5 h => ?_)
      exact r_iret d_X7_about_59 rfl h
    refine ite_c h (fun c7 h => ?_) (fun c7 h => ?_)
    · refine r_tswIn (c := 1) (off := 44) (pc' := 60) d_X7_about_16 c7 (by decide) (by decide) (by decide) rfl ?_
      refine r_aload_n (pc' := 61) d_X7_about_60 rfl rfl rfl ?_
      refine r_get (v := vR 17 _) (pc' := 64) fl_X7_53 d_X7_about_61 rfl rfl (fun g => Or.inl ⟨rfl, g.2⟩) rfl ?_
      refine r_get (v := vI _) (pc' := 67) fl_X7_123 d_X7_about_64 rfl rfl (fun _ => trivial) rfl ?_
      exact r_iret d_X7_about_67 rfl h
    refine ite_c h (fun c8 h => ?_) (fun c8 h => ?_)
    · refine r_tswIn (c := 2) (off := 52) (pc' := 68) d_X7_about_16 c8 (by decide) (by decide) (by decide) rfl ?_
      refine r_aload_n (pc' := 69) d_X7_about_68 rfl rfl rfl ?_
      refine r_get (v := vI _) (pc' := 72) fl_X7_90 d_X7_about_69 rfl rfl (fun _ => trivial) rfl ?_
      exact r_iret d_X7_about_72 rfl h
    refine ite_c h (fun c9 h => ?_) (fun c9 h => ?_)
    · refine r_tswIn (c := 3) (off := 57) (pc' := 73) d_X7_about_16 c9 (by decide) (by decide) (by decide) rfl ?_
      refine r_aload_n (pc' := 74) d_X7_about_73 rfl rfl rfl ?_
      refine r_get (v := vI _) (pc' := 77) fl_X7_87 d_X7_about_74 rfl rfl (fun _ => trivial) rfl ?_
      exact r_iret d_X7_about_77 rfl h
    refine ite_c h (fun c10 h => ?_) (fun c10 h => ?_)
    · refine r_tswIn (c := 4) (off := 62) (pc' := 78) d_X7_about_16 c10 (by decide) (by decide) (by decide) rfl ?_
      refine r_aload_n (pc' := 79) d_X7_about_78 rfl rfl rfl ?_
      refine r_get (v := vR 17 _) (pc' := 82) fl_X7_53 d_X7_about_79 rfl rfl (fun g => Or.inl ⟨rfl, g.2⟩) rfl ?_
      refine v0_i (mc := mi_X3_kind) (bc := (0, 0)) (b' := _) (pc' := 85) cw_X7_120 d_X7_about_82 rfl rfl rfl (Nat.zero_add _).symm (Nat.zero_add _).symm rfl h (fun _ _ e => t_X3_kind e) (fun x12 s11 h => ?_)
      refine s1_i (mc := mi_X7_familyOf) (bc := (0, 0)) (b' := _) (pc' := 88) cw_X7_126 d_X7_about_85 rfl (Nat.zero_add _).symm (Nat.zero_add _).symm rfl h (fun _ _ e => t_X7_familyOf e) (fun x14 s13 h => ?_)
      exact r_iret d_X7_about_88 rfl h
    have g0 := lv_neT c4 (show (0 : Int32).toInt = 0 by decide)
    have g1 := lv_neT c7 (show (1 : Int32).toInt = 1 by decide)
    have g2 := lv_neT c8 (show (2 : Int32).toInt = 2 by decide)
    have g3 := lv_neT c9 (show (3 : Int32).toInt = 3 by decide)
    have g4 := lv_neT c10 (show (4 : Int32).toInt = 4 by decide)
    refine r_tswOut (pc' := 89) d_X7_about_16 (by omega) rfl ?_
    refine r_iconst (pc' := 90) d_X7_about_89 ci_m1 rfl ?_
    exact r_iret d_X7_about_90 rfl h
/-! OctagonYard.corner(III)I -/
def mi_X7_corner : MI := (yX7_corner, cX7_corner, 5, (some .int))
theorem d_X7_corner_0 : decode mi_X7_corner.2.1 0 = .ok (.aload_n 0, 1) := by decide +kernel
theorem d_X7_corner_1 : decode mi_X7_corner.2.1 1 = .ok (.getfield 10, 3) := by decide +kernel
theorem d_X7_corner_4 : decode mi_X7_corner.2.1 4 = .ok (.iload_n 1, 1) := by decide +kernel
theorem d_X7_corner_5 : decode mi_X7_corner.2.1 5 = .ok (.invokevirtual 79, 3) := by decide +kernel
theorem d_X7_corner_8 : decode mi_X7_corner.2.1 8 = .ok (.astore 4, 2) := by decide +kernel
theorem d_X7_corner_10 : decode mi_X7_corner.2.1 10 = .ok (.aload 4, 2) := by decide +kernel
theorem d_X7_corner_12 : decode mi_X7_corner.2.1 12 = .ok (.ifnull 30, 3) := by decide +kernel
theorem d_X7_corner_15 : decode mi_X7_corner.2.1 15 = .ok (.iload_n 2, 1) := by decide +kernel
theorem d_X7_corner_16 : decode mi_X7_corner.2.1 16 = .ok (.iconst 0, 1) := by decide +kernel
theorem d_X7_corner_17 : decode mi_X7_corner.2.1 17 = .ok (.aload 4, 2) := by decide +kernel
theorem d_X7_corner_19 : decode mi_X7_corner.2.1 19 = .ok (.getfield 53, 3) := by decide +kernel
theorem d_X7_corner_22 : decode mi_X7_corner.2.1 22 = .ok (.getfield 123, 3) := by decide +kernel
theorem d_X7_corner_25 : decode mi_X7_corner.2.1 25 = .ok (.iconst 1, 1) := by decide +kernel
theorem d_X7_corner_26 : decode mi_X7_corner.2.1 26 = .ok (.isub, 1) := by decide +kernel
theorem d_X7_corner_27 : decode mi_X7_corner.2.1 27 = .ok (.invokestatic 37, 3) := by decide +kernel
theorem d_X7_corner_30 : decode mi_X7_corner.2.1 30 = .ok (.ifCond .eq 12, 3) := by decide +kernel
theorem d_X7_corner_33 : decode mi_X7_corner.2.1 33 = .ok (.iload_n 3, 1) := by decide +kernel
theorem d_X7_corner_34 : decode mi_X7_corner.2.1 34 = .ok (.iconst 0, 1) := by decide +kernel
theorem d_X7_corner_35 : decode mi_X7_corner.2.1 35 = .ok (.iconst 1, 1) := by decide +kernel
theorem d_X7_corner_36 : decode mi_X7_corner.2.1 36 = .ok (.invokestatic 37, 3) := by decide +kernel
theorem d_X7_corner_39 : decode mi_X7_corner.2.1 39 = .ok (.ifCond .ne 6, 3) := by decide +kernel
theorem d_X7_corner_42 : decode mi_X7_corner.2.1 42 = .ok (.ldc 115, 2) := by decide +kernel
theorem d_X7_corner_44 : decode mi_X7_corner.2.1 44 = .ok (.ireturn, 1) := by decide +kernel
theorem d_X7_corner_45 : decode mi_X7_corner.2.1 45 = .ok (.iload_n 3, 1) := by decide +kernel
theorem d_X7_corner_46 : decode mi_X7_corner.2.1 46 = .ok (.ifCond .ne 16, 3) := by decide +kernel
theorem d_X7_corner_49 : decode mi_X7_corner.2.1 49 = .ok (.aload 4, 2) := by decide +kernel
theorem d_X7_corner_51 : decode mi_X7_corner.2.1 51 = .ok (.getfield 53, 3) := by decide +kernel
theorem d_X7_corner_54 : decode mi_X7_corner.2.1 54 = .ok (.getfield 129, 3) := by decide +kernel
theorem d_X7_corner_57 : decode mi_X7_corner.2.1 57 = .ok (.iload_n 2, 1) := by decide +kernel
theorem d_X7_corner_58 : decode mi_X7_corner.2.1 58 = .ok (.iaload, 1) := by decide +kernel
theorem d_X7_corner_59 : decode mi_X7_corner.2.1 59 = .ok (.goto 13, 3) := by decide +kernel
theorem d_X7_corner_62 : decode mi_X7_corner.2.1 62 = .ok (.aload 4, 2) := by decide +kernel
theorem d_X7_corner_64 : decode mi_X7_corner.2.1 64 = .ok (.getfield 53, 3) := by decide +kernel
theorem d_X7_corner_67 : decode mi_X7_corner.2.1 67 = .ok (.getfield 133, 3) := by decide +kernel
theorem d_X7_corner_70 : decode mi_X7_corner.2.1 70 = .ok (.iload_n 2, 1) := by decide +kernel
theorem d_X7_corner_71 : decode mi_X7_corner.2.1 71 = .ok (.iaload, 1) := by decide +kernel
theorem d_X7_corner_72 : decode mi_X7_corner.2.1 72 = .ok (.ireturn, 1) := by decide +kernel
theorem fl_X7_129 : FL RX7 129 3 5 1 := ⟨RX3, TX3, rfl, by decide, rfl, by decide +kernel, in_3⟩
theorem fl_X7_133 : FL RX7 133 3 5 2 := ⟨RX3, TX3, rfl, by decide, rfl, by decide +kernel, in_3⟩
def f_X7_corner (v1 : Int32) (v2 : Int32) (v3 : Int32) (σ : SS) : Option (Int32 × SS) := cal (f_X6_find v1 σ) (fun q2 s1 => Option.elim q2 (some ((100000 : Int32), s1)) (fun i3 => cal (f_X7_isFrom v2 (0 : Int32) ((s1.1 17 i3 4) - (1 : Int32)) s1) (fun x5 s4 => if x5 = 0 then (some ((100000 : Int32), s4)) else (cal (f_X7_isFrom v3 (0 : Int32) (1 : Int32) s4) (fun x7 s6 => if x7 = 0 then (some ((100000 : Int32), s6)) else (if v3 = 0 then (chk (inr v2 8) (some ((s6.1 19 i3 (ix v2)), s6))) else (chk (inr v2 8) (some ((s6.1 20 i3 (ix v2)), s6)))))))))
set_option maxRecDepth 20000 in
theorem t_X7_corner {d : Nat} {b : Nat × Nat} {v1 : Int32} {v2 : Int32} {v3 : Int32} {σ : SS} {r : Int32} {σ' : SS} (h : f_X7_corner v1 v2 v3 σ = some (r, σ')) : MM (d + 3) b mi_X7_corner [vR 0 0, vI v1, vI v2, vI v3] σ (some (vI r), σ') := by
  refine MM.of (lv := [some (vR 0 0), some (vI v1), some (vI v2), some (vI v3), none]) (by decide +kernel) rfl rfl (fun X Y => ?_)
  rw [f_X7_corner] at h
  refine r_aload_n (pc' := 1) d_X7_corner_0 rfl rfl rfl ?_
  refine r_get (v := vR 1 _) (pc' := 4) fl_X7_10 d_X7_corner_1 rfl rfl (fun g => Or.inl ⟨rfl, g.2⟩) rfl ?_
  refine r_iload_n (pc' := 5) d_X7_corner_4 rfl rfl rfl ?_
  refine v1_o (t := 16) (mc := mi_X6_find) (bc := (0, 0)) (b' := _) (pc' := 8) cw_X7_79 d_X7_corner_5 rfl rfl rfl (Nat.zero_add _).symm (Nat.zero_add _).symm rfl h (fun _ _ e => t_X6_find e) (fun q2 s1 h => ?_)
  refine r_astore (pc' := 10) d_X7_corner_8 rfl rfl rfl ?_
  refine r_aload (pc' := 12) d_X7_corner_10 rfl rfl ?_
  refine r_ifnull (pcT := 42) (pc' := 15) d_X7_corner_12 rfl rfl h (fun e hn => ?_) (fun i3 e hn => ?_)
  · clear h; subst e; have h := hn; clear hn
    refine r_ldc (pc' := 44) k_X7_115 d_X7_corner_42 rfl ?_
    exact r_iret d_X7_corner_44 rfl h
  · clear h; subst e; have h := hn; clear hn
    refine r_iload_n (pc' := 16) d_X7_corner_15 rfl rfl rfl ?_
    refine r_iconst (pc' := 17) d_X7_corner_16 ci_0 rfl ?_
    refine r_aload (pc' := 19) d_X7_corner_17 rfl rfl ?_
    refine r_get (v := vR 17 _) (pc' := 22) fl_X7_53 d_X7_corner_19 rfl rfl (fun g => Or.inl ⟨rfl, g.2⟩) rfl ?_
    refine r_get (v := vI _) (pc' := 25) fl_X7_123 d_X7_corner_22 rfl rfl (fun _ => trivial) rfl ?_
    refine r_iconst (pc' := 26) d_X7_corner_25 ci_1 rfl ?_
    refine r_isub (pc' := 27) d_X7_corner_26 rfl ?_
    refine s3_i (mc := mi_X7_isFrom) (bc := (0, 0)) (b' := _) (pc' := 30) cw_X7_37 d_X7_corner_27 rfl (Nat.zero_add _).symm (Nat.zero_add _).symm rfl h (fun _ _ e => t_X7_isFrom e) (fun x5 s4 h => ?_)
    refine r_if_eq (pcT := 42) (pc' := 33) d_X7_corner_30 rfl rfl h (fun _ h => ?_) (fun _ h => ?_)
    · refine r_ldc (pc' := 44) k_X7_115 d_X7_corner_42 rfl ?_
      exact r_iret d_X7_corner_44 rfl h
    · refine r_iload_n (pc' := 34) d_X7_corner_33 rfl rfl rfl ?_
      refine r_iconst (pc' := 35) d_X7_corner_34 ci_0 rfl ?_
      refine r_iconst (pc' := 36) d_X7_corner_35 ci_1 rfl ?_
      refine s3_i (mc := mi_X7_isFrom) (bc := (0, 0)) (b' := _) (pc' := 39) cw_X7_37 d_X7_corner_36 rfl (Nat.zero_add _).symm (Nat.zero_add _).symm rfl h (fun _ _ e => t_X7_isFrom e) (fun x7 s6 h => ?_)
      refine r_if_ne (pcT := 45) (pc' := 42) d_X7_corner_39 rfl rfl h (fun _ h => ?_) (fun _ h => ?_)
      · refine r_ldc (pc' := 44) k_X7_115 d_X7_corner_42 rfl ?_
        exact r_iret d_X7_corner_44 rfl h
      · refine r_iload_n (pc' := 46) d_X7_corner_45 rfl rfl rfl ?_
        refine r_if_ne (pcT := 62) (pc' := 49) d_X7_corner_46 rfl rfl h (fun _ h => ?_) (fun _ h => ?_)
        · refine r_aload (pc' := 51) d_X7_corner_49 rfl rfl ?_
          refine r_get (v := vR 17 _) (pc' := 54) fl_X7_53 d_X7_corner_51 rfl rfl (fun g => Or.inl ⟨rfl, g.2⟩) rfl ?_
          refine r_get (v := vR 19 _) (pc' := 57) fl_X7_129 d_X7_corner_54 rfl rfl (fun g => Or.inl ⟨rfl, g.2⟩) rfl ?_
          refine r_iload_n (pc' := 58) d_X7_corner_57 rfl rfl rfl ?_
          refine r_iaload (pc' := 59) d_X7_corner_58 rfl (fun _ => rfl) rfl h (fun h => ?_)
          refine r_goto (pc' := 72) d_X7_corner_59 rfl ?_
          exact r_iret d_X7_corner_72 rfl h
        · refine r_aload (pc' := 64) d_X7_corner_62 rfl rfl ?_
          refine r_get (v := vR 17 _) (pc' := 67) fl_X7_53 d_X7_corner_64 rfl rfl (fun g => Or.inl ⟨rfl, g.2⟩) rfl ?_
          refine r_get (v := vR 20 _) (pc' := 70) fl_X7_133 d_X7_corner_67 rfl rfl (fun g => Or.inl ⟨rfl, g.2⟩) rfl ?_
          refine r_iload_n (pc' := 71) d_X7_corner_70 rfl rfl rfl ?_
          refine r_iaload (pc' := 72) d_X7_corner_71 rfl (fun _ => rfl) rfl h (fun h => ?_)
          exact r_iret d_X7_corner_72 rfl h
/-! OctagonYard.side(II)I -/
def mi_X7_side : MI := (yX7_side, cX7_side, 4, (some .int))
theorem d_X7_side_0 : decode mi_X7_side.2.1 0 = .ok (.aload_n 0, 1) := by decide +kernel
theorem d_X7_side_1 : decode mi_X7_side.2.1 1 = .ok (.getfield 10, 3) := by decide +kernel
theorem d_X7_side_4 : decode mi_X7_side.2.1 4 = .ok (.iload_n 1, 1) := by decide +kernel
theorem d_X7_side_5 : decode mi_X7_side.2.1 5 = .ok (.invokevirtual 79, 3) := by decide +kernel
theorem d_X7_side_8 : decode mi_X7_side.2.1 8 = .ok (.astore_n 3, 1) := by decide +kernel
theorem d_X7_side_9 : decode mi_X7_side.2.1 9 = .ok (.aload_n 3, 1) := by decide +kernel
theorem d_X7_side_10 : decode mi_X7_side.2.1 10 = .ok (.ifnull 20, 3) := by decide +kernel
theorem d_X7_side_13 : decode mi_X7_side.2.1 13 = .ok (.iload_n 2, 1) := by decide +kernel
theorem d_X7_side_14 : decode mi_X7_side.2.1 14 = .ok (.iconst 0, 1) := by decide +kernel
theorem d_X7_side_15 : decode mi_X7_side.2.1 15 = .ok (.aload_n 3, 1) := by decide +kernel
theorem d_X7_side_16 : decode mi_X7_side.2.1 16 = .ok (.getfield 53, 3) := by decide +kernel
theorem d_X7_side_19 : decode mi_X7_side.2.1 19 = .ok (.getfield 123, 3) := by decide +kernel
theorem d_X7_side_22 : decode mi_X7_side.2.1 22 = .ok (.iconst 1, 1) := by decide +kernel
theorem d_X7_side_23 : decode mi_X7_side.2.1 23 = .ok (.isub, 1) := by decide +kernel
theorem d_X7_side_24 : decode mi_X7_side.2.1 24 = .ok (.invokestatic 37, 3) := by decide +kernel
theorem d_X7_side_27 : decode mi_X7_side.2.1 27 = .ok (.ifCond .ne 5, 3) := by decide +kernel
theorem d_X7_side_30 : decode mi_X7_side.2.1 30 = .ok (.iconst (-1), 1) := by decide +kernel
theorem d_X7_side_31 : decode mi_X7_side.2.1 31 = .ok (.ireturn, 1) := by decide +kernel
theorem d_X7_side_32 : decode mi_X7_side.2.1 32 = .ok (.aload_n 3, 1) := by decide +kernel
theorem d_X7_side_33 : decode mi_X7_side.2.1 33 = .ok (.getfield 53, 3) := by decide +kernel
theorem d_X7_side_36 : decode mi_X7_side.2.1 36 = .ok (.getfield 136, 3) := by decide +kernel
theorem d_X7_side_39 : decode mi_X7_side.2.1 39 = .ok (.iload_n 2, 1) := by decide +kernel
theorem d_X7_side_40 : decode mi_X7_side.2.1 40 = .ok (.iaload, 1) := by decide +kernel
theorem d_X7_side_41 : decode mi_X7_side.2.1 41 = .ok (.ireturn, 1) := by decide +kernel
theorem fl_X7_136 : FL RX7 136 3 5 3 := ⟨RX3, TX3, rfl, by decide, rfl, by decide +kernel, in_3⟩
def f_X7_side (v1 : Int32) (v2 : Int32) (σ : SS) : Option (Int32 × SS) := cal (f_X6_find v1 σ) (fun q2 s1 => Option.elim q2 (some ((-1 : Int32), s1)) (fun i3 => cal (f_X7_isFrom v2 (0 : Int32) ((s1.1 17 i3 4) - (1 : Int32)) s1) (fun x5 s4 => if x5 = 0 then (some ((-1 : Int32), s4)) else (chk (inr v2 8) (some ((s4.1 21 i3 (ix v2)), s4))))))
set_option maxRecDepth 20000 in
theorem t_X7_side {d : Nat} {b : Nat × Nat} {v1 : Int32} {v2 : Int32} {σ : SS} {r : Int32} {σ' : SS} (h : f_X7_side v1 v2 σ = some (r, σ')) : MM (d + 3) b mi_X7_side [vR 0 0, vI v1, vI v2] σ (some (vI r), σ') := by
  refine MM.of (lv := [some (vR 0 0), some (vI v1), some (vI v2), none]) (by decide +kernel) rfl rfl (fun X Y => ?_)
  rw [f_X7_side] at h
  refine r_aload_n (pc' := 1) d_X7_side_0 rfl rfl rfl ?_
  refine r_get (v := vR 1 _) (pc' := 4) fl_X7_10 d_X7_side_1 rfl rfl (fun g => Or.inl ⟨rfl, g.2⟩) rfl ?_
  refine r_iload_n (pc' := 5) d_X7_side_4 rfl rfl rfl ?_
  refine v1_o (t := 16) (mc := mi_X6_find) (bc := (0, 0)) (b' := _) (pc' := 8) cw_X7_79 d_X7_side_5 rfl rfl rfl (Nat.zero_add _).symm (Nat.zero_add _).symm rfl h (fun _ _ e => t_X6_find e) (fun q2 s1 h => ?_)
  refine r_astore_n (pc' := 9) d_X7_side_8 rfl rfl rfl rfl ?_
  refine r_aload_n (pc' := 10) d_X7_side_9 rfl rfl rfl ?_
  refine r_ifnull (pcT := 30) (pc' := 13) d_X7_side_10 rfl rfl h (fun e hn => ?_) (fun i3 e hn => ?_)
  · clear h; subst e; have h := hn; clear hn
    refine r_iconst (pc' := 31) d_X7_side_30 ci_m1 rfl ?_
    exact r_iret d_X7_side_31 rfl h
  · clear h; subst e; have h := hn; clear hn
    refine r_iload_n (pc' := 14) d_X7_side_13 rfl rfl rfl ?_
    refine r_iconst (pc' := 15) d_X7_side_14 ci_0 rfl ?_
    refine r_aload_n (pc' := 16) d_X7_side_15 rfl rfl rfl ?_
    refine r_get (v := vR 17 _) (pc' := 19) fl_X7_53 d_X7_side_16 rfl rfl (fun g => Or.inl ⟨rfl, g.2⟩) rfl ?_
    refine r_get (v := vI _) (pc' := 22) fl_X7_123 d_X7_side_19 rfl rfl (fun _ => trivial) rfl ?_
    refine r_iconst (pc' := 23) d_X7_side_22 ci_1 rfl ?_
    refine r_isub (pc' := 24) d_X7_side_23 rfl ?_
    refine s3_i (mc := mi_X7_isFrom) (bc := (0, 0)) (b' := _) (pc' := 27) cw_X7_37 d_X7_side_24 rfl (Nat.zero_add _).symm (Nat.zero_add _).symm rfl h (fun _ _ e => t_X7_isFrom e) (fun x5 s4 h => ?_)
    refine r_if_ne (pcT := 32) (pc' := 30) d_X7_side_27 rfl rfl h (fun _ h => ?_) (fun _ h => ?_)
    · refine r_iconst (pc' := 31) d_X7_side_30 ci_m1 rfl ?_
      exact r_iret d_X7_side_31 rfl h
    · refine r_aload_n (pc' := 33) d_X7_side_32 rfl rfl rfl ?_
      refine r_get (v := vR 17 _) (pc' := 36) fl_X7_53 d_X7_side_33 rfl rfl (fun g => Or.inl ⟨rfl, g.2⟩) rfl ?_
      refine r_get (v := vR 21 _) (pc' := 39) fl_X7_136 d_X7_side_36 rfl rfl (fun g => Or.inl ⟨rfl, g.2⟩) rfl ?_
      refine r_iload_n (pc' := 40) d_X7_side_39 rfl rfl rfl ?_
      refine r_iaload (pc' := 41) d_X7_side_40 rfl (fun _ => rfl) rfl h (fun h => ?_)
      exact r_iret d_X7_side_41 rfl h
/-! OctagonYard.area(I)I -/
def mi_X7_area : MI := (yX7_area, cX7_area, 3, (some .int))
theorem d_X7_area_0 : decode mi_X7_area.2.1 0 = .ok (.aload_n 0, 1) := by decide +kernel
theorem d_X7_area_1 : decode mi_X7_area.2.1 1 = .ok (.getfield 10, 3) := by decide +kernel
theorem d_X7_area_4 : decode mi_X7_area.2.1 4 = .ok (.iload_n 1, 1) := by decide +kernel
theorem d_X7_area_5 : decode mi_X7_area.2.1 5 = .ok (.invokevirtual 79, 3) := by decide +kernel
theorem d_X7_area_8 : decode mi_X7_area.2.1 8 = .ok (.astore_n 2, 1) := by decide +kernel
theorem d_X7_area_9 : decode mi_X7_area.2.1 9 = .ok (.aload_n 2, 1) := by decide +kernel
theorem d_X7_area_10 : decode mi_X7_area.2.1 10 = .ok (.ifnonnull 7, 3) := by decide +kernel
theorem d_X7_area_13 : decode mi_X7_area.2.1 13 = .ok (.iconst (-1), 1) := by decide +kernel
theorem d_X7_area_14 : decode mi_X7_area.2.1 14 = .ok (.goto 10, 3) := by decide +kernel
theorem d_X7_area_17 : decode mi_X7_area.2.1 17 = .ok (.aload_n 2, 1) := by decide +kernel
theorem d_X7_area_18 : decode mi_X7_area.2.1 18 = .ok (.getfield 53, 3) := by decide +kernel
theorem d_X7_area_21 : decode mi_X7_area.2.1 21 = .ok (.invokevirtual 65, 3) := by decide +kernel
theorem d_X7_area_24 : decode mi_X7_area.2.1 24 = .ok (.ireturn, 1) := by decide +kernel
def f_X7_area (v1 : Int32) (σ : SS) : Option (Int32 × SS) := cal (f_X6_find v1 σ) (fun q2 s1 => Option.elim q2 (some ((-1 : Int32), s1)) (fun i3 => cal (f_X3_eightfold i3 s1) (fun x5 s4 => some (x5, s4))))
set_option maxRecDepth 20000 in
theorem t_X7_area {d : Nat} {b : Nat × Nat} {v1 : Int32} {σ : SS} {r : Int32} {σ' : SS} (h : f_X7_area v1 σ = some (r, σ')) : MM (d + 3) b mi_X7_area [vR 0 0, vI v1] σ (some (vI r), σ') := by
  refine MM.of (lv := [some (vR 0 0), some (vI v1), none]) (by decide +kernel) rfl rfl (fun X Y => ?_)
  rw [f_X7_area] at h
  refine r_aload_n (pc' := 1) d_X7_area_0 rfl rfl rfl ?_
  refine r_get (v := vR 1 _) (pc' := 4) fl_X7_10 d_X7_area_1 rfl rfl (fun g => Or.inl ⟨rfl, g.2⟩) rfl ?_
  refine r_iload_n (pc' := 5) d_X7_area_4 rfl rfl rfl ?_
  refine v1_o (t := 16) (mc := mi_X6_find) (bc := (0, 0)) (b' := _) (pc' := 8) cw_X7_79 d_X7_area_5 rfl rfl rfl (Nat.zero_add _).symm (Nat.zero_add _).symm rfl h (fun _ _ e => t_X6_find e) (fun q2 s1 h => ?_)
  refine r_astore_n (pc' := 9) d_X7_area_8 rfl rfl rfl rfl ?_
  refine r_aload_n (pc' := 10) d_X7_area_9 rfl rfl rfl ?_
  refine r_ifnonnull (pcT := 17) (pc' := 13) d_X7_area_10 rfl rfl h (fun e hn => ?_) (fun i3 e hn => ?_)
  · clear h; subst e; have h := hn; clear hn
    refine r_iconst (pc' := 14) d_X7_area_13 ci_m1 rfl ?_
    refine r_goto (pc' := 24) d_X7_area_14 rfl ?_
    exact r_iret d_X7_area_24 rfl h
  · clear h; subst e; have h := hn; clear hn
    refine r_aload_n (pc' := 18) d_X7_area_17 rfl rfl rfl ?_
    refine r_get (v := vR 17 _) (pc' := 21) fl_X7_53 d_X7_area_18 rfl rfl (fun g => Or.inl ⟨rfl, g.2⟩) rfl ?_
    refine v0_i (mc := mi_X3_eightfold) (bc := (0, 0)) (b' := _) (pc' := 24) cw_X7_65 d_X7_area_21 rfl rfl rfl (Nat.zero_add _).symm (Nat.zero_add _).symm rfl h (fun _ _ e => t_X3_eightfold e) (fun x5 s4 h => ?_)
    exact r_iret d_X7_area_24 rfl h
/-! OctagonYard.volume(I)J -/
def mi_X7_volume : MI := (yX7_volume, cX7_volume, 3, (some .long))
theorem d_X7_volume_0 : decode mi_X7_volume.2.1 0 = .ok (.aload_n 0, 1) := by decide +kernel
theorem d_X7_volume_1 : decode mi_X7_volume.2.1 1 = .ok (.getfield 10, 3) := by decide +kernel
theorem d_X7_volume_4 : decode mi_X7_volume.2.1 4 = .ok (.iload_n 1, 1) := by decide +kernel
theorem d_X7_volume_5 : decode mi_X7_volume.2.1 5 = .ok (.invokevirtual 79, 3) := by decide +kernel
theorem d_X7_volume_8 : decode mi_X7_volume.2.1 8 = .ok (.astore_n 2, 1) := by decide +kernel
theorem d_X7_volume_9 : decode mi_X7_volume.2.1 9 = .ok (.aload_n 2, 1) := by decide +kernel
theorem d_X7_volume_10 : decode mi_X7_volume.2.1 10 = .ok (.ifnonnull 9, 3) := by decide +kernel
theorem d_X7_volume_13 : decode mi_X7_volume.2.1 13 = .ok (.ldc2_w 139, 3) := by decide +kernel
theorem d_X7_volume_16 : decode mi_X7_volume.2.1 16 = .ok (.goto 7, 3) := by decide +kernel
theorem d_X7_volume_19 : decode mi_X7_volume.2.1 19 = .ok (.aload_n 2, 1) := by decide +kernel
theorem d_X7_volume_20 : decode mi_X7_volume.2.1 20 = .ok (.invokevirtual 141, 3) := by decide +kernel
theorem d_X7_volume_23 : decode mi_X7_volume.2.1 23 = .ok (.lreturn, 1) := by decide +kernel
theorem k_X7_139 : Cond.constantLong RX7 139 (-1) ∈ mtbl := by decide +kernel
theorem cw_X7_141 : CV RX7 141 mi_X4_bulk 0 := by unfold CV; decide +kernel
def f_X7_volume (v1 : Int32) (σ : SS) : Option (Int64 × SS) := cal (f_X6_find v1 σ) (fun q2 s1 => Option.elim q2 (some ((-1 : Int64), s1)) (fun i3 => cal (f_X4_bulk i3 s1) (fun x5 s4 => some (x5, s4))))
set_option maxRecDepth 20000 in
theorem t_X7_volume {d : Nat} {b : Nat × Nat} {v1 : Int32} {σ : SS} {r : Int64} {σ' : SS} (h : f_X7_volume v1 σ = some (r, σ')) : MM (d + 3) b mi_X7_volume [vR 0 0, vI v1] σ (some (vL r), σ') := by
  refine MM.of (lv := [some (vR 0 0), some (vI v1), none]) (by decide +kernel) rfl rfl (fun X Y => ?_)
  rw [f_X7_volume] at h
  refine r_aload_n (pc' := 1) d_X7_volume_0 rfl rfl rfl ?_
  refine r_get (v := vR 1 _) (pc' := 4) fl_X7_10 d_X7_volume_1 rfl rfl (fun g => Or.inl ⟨rfl, g.2⟩) rfl ?_
  refine r_iload_n (pc' := 5) d_X7_volume_4 rfl rfl rfl ?_
  refine v1_o (t := 16) (mc := mi_X6_find) (bc := (0, 0)) (b' := _) (pc' := 8) cw_X7_79 d_X7_volume_5 rfl rfl rfl (Nat.zero_add _).symm (Nat.zero_add _).symm rfl h (fun _ _ e => t_X6_find e) (fun q2 s1 h => ?_)
  refine r_astore_n (pc' := 9) d_X7_volume_8 rfl rfl rfl rfl ?_
  refine r_aload_n (pc' := 10) d_X7_volume_9 rfl rfl rfl ?_
  refine r_ifnonnull (pcT := 19) (pc' := 13) d_X7_volume_10 rfl rfl h (fun e hn => ?_) (fun i3 e hn => ?_)
  · clear h; subst e; have h := hn; clear hn
    refine r_ldc2 (pc' := 16) k_X7_139 d_X7_volume_13 rfl ?_
    refine r_goto (pc' := 23) d_X7_volume_16 rfl ?_
    exact r_lret d_X7_volume_23 rfl h
  · clear h; subst e; have h := hn; clear hn
    refine r_aload_n (pc' := 20) d_X7_volume_19 rfl rfl rfl ?_
    refine v0_l (mc := mi_X4_bulk) (bc := (0, 0)) (b' := _) (pc' := 23) cw_X7_141 d_X7_volume_20 rfl rfl rfl (Nat.zero_add _).symm (Nat.zero_add _).symm rfl h (fun _ _ e => t_X4_bulk e) (fun x5 s4 h => ?_)
    exact r_lret d_X7_volume_23 rfl h
/-! OctagonYard.inside(III)I -/
def mi_X7_inside : MI := (yX7_inside, cX7_inside, 5, (some .int))
theorem d_X7_inside_0 : decode mi_X7_inside.2.1 0 = .ok (.aload_n 0, 1) := by decide +kernel
theorem d_X7_inside_1 : decode mi_X7_inside.2.1 1 = .ok (.getfield 10, 3) := by decide +kernel
theorem d_X7_inside_4 : decode mi_X7_inside.2.1 4 = .ok (.iload_n 1, 1) := by decide +kernel
theorem d_X7_inside_5 : decode mi_X7_inside.2.1 5 = .ok (.invokevirtual 79, 3) := by decide +kernel
theorem d_X7_inside_8 : decode mi_X7_inside.2.1 8 = .ok (.astore 4, 2) := by decide +kernel
theorem d_X7_inside_10 : decode mi_X7_inside.2.1 10 = .ok (.aload 4, 2) := by decide +kernel
theorem d_X7_inside_12 : decode mi_X7_inside.2.1 12 = .ok (.ifnull 29, 3) := by decide +kernel
theorem d_X7_inside_15 : decode mi_X7_inside.2.1 15 = .ok (.iload_n 2, 1) := by decide +kernel
theorem d_X7_inside_16 : decode mi_X7_inside.2.1 16 = .ok (.sipush (-10000), 3) := by decide +kernel
theorem d_X7_inside_19 : decode mi_X7_inside.2.1 19 = .ok (.sipush 10000, 3) := by decide +kernel
theorem d_X7_inside_22 : decode mi_X7_inside.2.1 22 = .ok (.invokestatic 37, 3) := by decide +kernel
theorem d_X7_inside_25 : decode mi_X7_inside.2.1 25 = .ok (.ifCond .eq 16, 3) := by decide +kernel
theorem d_X7_inside_28 : decode mi_X7_inside.2.1 28 = .ok (.iload_n 3, 1) := by decide +kernel
theorem d_X7_inside_29 : decode mi_X7_inside.2.1 29 = .ok (.sipush (-10000), 3) := by decide +kernel
theorem d_X7_inside_32 : decode mi_X7_inside.2.1 32 = .ok (.sipush 10000, 3) := by decide +kernel
theorem d_X7_inside_35 : decode mi_X7_inside.2.1 35 = .ok (.invokestatic 37, 3) := by decide +kernel
theorem d_X7_inside_38 : decode mi_X7_inside.2.1 38 = .ok (.ifCond .ne 5, 3) := by decide +kernel
theorem d_X7_inside_41 : decode mi_X7_inside.2.1 41 = .ok (.iconst (-1), 1) := by decide +kernel
theorem d_X7_inside_42 : decode mi_X7_inside.2.1 42 = .ok (.ireturn, 1) := by decide +kernel
theorem d_X7_inside_43 : decode mi_X7_inside.2.1 43 = .ok (.aload 4, 2) := by decide +kernel
theorem d_X7_inside_45 : decode mi_X7_inside.2.1 45 = .ok (.getfield 53, 3) := by decide +kernel
theorem d_X7_inside_48 : decode mi_X7_inside.2.1 48 = .ok (.iload_n 2, 1) := by decide +kernel
theorem d_X7_inside_49 : decode mi_X7_inside.2.1 49 = .ok (.iload_n 3, 1) := by decide +kernel
theorem d_X7_inside_50 : decode mi_X7_inside.2.1 50 = .ok (.invokevirtual 145, 3) := by decide +kernel
theorem d_X7_inside_53 : decode mi_X7_inside.2.1 53 = .ok (.ireturn, 1) := by decide +kernel
theorem cs_m10000 : (Int16.ofInt (-10000)).toInt32 = -10000 := by decide
theorem cs_10000 : (Int16.ofInt (10000)).toInt32 = 10000 := by decide
theorem cw_X7_145 : CV RX7 145 mi_X3_place 2 := by unfold CV; decide +kernel
def f_X7_inside (v1 : Int32) (v2 : Int32) (v3 : Int32) (σ : SS) : Option (Int32 × SS) := cal (f_X6_find v1 σ) (fun q2 s1 => Option.elim q2 (some ((-1 : Int32), s1)) (fun i3 => cal (f_X7_isFrom v2 (-10000 : Int32) (10000 : Int32) s1) (fun x5 s4 => if x5 = 0 then (some ((-1 : Int32), s4)) else (cal (f_X7_isFrom v3 (-10000 : Int32) (10000 : Int32) s4) (fun x7 s6 => if x7 = 0 then (some ((-1 : Int32), s6)) else (cal (f_X3_place i3 v2 v3 s6) (fun x9 s8 => some (x9, s8))))))))
set_option maxRecDepth 20000 in
theorem t_X7_inside {d : Nat} {b : Nat × Nat} {v1 : Int32} {v2 : Int32} {v3 : Int32} {σ : SS} {r : Int32} {σ' : SS} (h : f_X7_inside v1 v2 v3 σ = some (r, σ')) : MM (d + 3) b mi_X7_inside [vR 0 0, vI v1, vI v2, vI v3] σ (some (vI r), σ') := by
  refine MM.of (lv := [some (vR 0 0), some (vI v1), some (vI v2), some (vI v3), none]) (by decide +kernel) rfl rfl (fun X Y => ?_)
  rw [f_X7_inside] at h
  refine r_aload_n (pc' := 1) d_X7_inside_0 rfl rfl rfl ?_
  refine r_get (v := vR 1 _) (pc' := 4) fl_X7_10 d_X7_inside_1 rfl rfl (fun g => Or.inl ⟨rfl, g.2⟩) rfl ?_
  refine r_iload_n (pc' := 5) d_X7_inside_4 rfl rfl rfl ?_
  refine v1_o (t := 16) (mc := mi_X6_find) (bc := (0, 0)) (b' := _) (pc' := 8) cw_X7_79 d_X7_inside_5 rfl rfl rfl (Nat.zero_add _).symm (Nat.zero_add _).symm rfl h (fun _ _ e => t_X6_find e) (fun q2 s1 h => ?_)
  refine r_astore (pc' := 10) d_X7_inside_8 rfl rfl rfl ?_
  refine r_aload (pc' := 12) d_X7_inside_10 rfl rfl ?_
  refine r_ifnull (pcT := 41) (pc' := 15) d_X7_inside_12 rfl rfl h (fun e hn => ?_) (fun i3 e hn => ?_)
  · clear h; subst e; have h := hn; clear hn
    refine r_iconst (pc' := 42) d_X7_inside_41 ci_m1 rfl ?_
    exact r_iret d_X7_inside_42 rfl h
  · clear h; subst e; have h := hn; clear hn
    refine r_iload_n (pc' := 16) d_X7_inside_15 rfl rfl rfl ?_
    refine r_sipush (pc' := 19) d_X7_inside_16 cs_m10000 rfl ?_
    refine r_sipush (pc' := 22) d_X7_inside_19 cs_10000 rfl ?_
    refine s3_i (mc := mi_X7_isFrom) (bc := (0, 0)) (b' := _) (pc' := 25) cw_X7_37 d_X7_inside_22 rfl (Nat.zero_add _).symm (Nat.zero_add _).symm rfl h (fun _ _ e => t_X7_isFrom e) (fun x5 s4 h => ?_)
    refine r_if_eq (pcT := 41) (pc' := 28) d_X7_inside_25 rfl rfl h (fun _ h => ?_) (fun _ h => ?_)
    · refine r_iconst (pc' := 42) d_X7_inside_41 ci_m1 rfl ?_
      exact r_iret d_X7_inside_42 rfl h
    · refine r_iload_n (pc' := 29) d_X7_inside_28 rfl rfl rfl ?_
      refine r_sipush (pc' := 32) d_X7_inside_29 cs_m10000 rfl ?_
      refine r_sipush (pc' := 35) d_X7_inside_32 cs_10000 rfl ?_
      refine s3_i (mc := mi_X7_isFrom) (bc := (0, 0)) (b' := _) (pc' := 38) cw_X7_37 d_X7_inside_35 rfl (Nat.zero_add _).symm (Nat.zero_add _).symm rfl h (fun _ _ e => t_X7_isFrom e) (fun x7 s6 h => ?_)
      refine r_if_ne (pcT := 43) (pc' := 41) d_X7_inside_38 rfl rfl h (fun _ h => ?_) (fun _ h => ?_)
      · refine r_iconst (pc' := 42) d_X7_inside_41 ci_m1 rfl ?_
        exact r_iret d_X7_inside_42 rfl h
      · refine r_aload (pc' := 45) d_X7_inside_43 rfl rfl ?_
        refine r_get (v := vR 17 _) (pc' := 48) fl_X7_53 d_X7_inside_45 rfl rfl (fun g => Or.inl ⟨rfl, g.2⟩) rfl ?_
        refine r_iload_n (pc' := 49) d_X7_inside_48 rfl rfl rfl ?_
        refine r_iload_n (pc' := 50) d_X7_inside_49 rfl rfl rfl ?_
        refine v2_i (mc := mi_X3_place) (bc := (0, 0)) (b' := _) (pc' := 53) cw_X7_145 d_X7_inside_50 rfl rfl rfl (Nat.zero_add _).symm (Nat.zero_add _).symm rfl h (fun _ _ e => t_X3_place e) (fun x9 s8 h => ?_)
        exact r_iret d_X7_inside_53 rfl h
/-! OctagonYard.waste(I)I -/
def mi_X7_waste : MI := (yX7_waste, cX7_waste, 2, (some .int))
theorem d_X7_waste_0 : decode mi_X7_waste.2.1 0 = .ok (.aload_n 0, 1) := by decide +kernel
theorem d_X7_waste_1 : decode mi_X7_waste.2.1 1 = .ok (.getfield 10, 3) := by decide +kernel
theorem d_X7_waste_4 : decode mi_X7_waste.2.1 4 = .ok (.iload_n 1, 1) := by decide +kernel
theorem d_X7_waste_5 : decode mi_X7_waste.2.1 5 = .ok (.invokevirtual 149, 3) := by decide +kernel
theorem d_X7_waste_8 : decode mi_X7_waste.2.1 8 = .ok (.ireturn, 1) := by decide +kernel
theorem cw_X7_149 : CV RX7 149 mi_X6_lostOf 1 := by unfold CV; decide +kernel
def f_X7_waste (v1 : Int32) (σ : SS) : Option (Int32 × SS) := cal (f_X6_lostOf v1 σ) (fun x2 s1 => some (x2, s1))
set_option maxRecDepth 20000 in
theorem t_X7_waste {d : Nat} {b : Nat × Nat} {v1 : Int32} {σ : SS} {r : Int32} {σ' : SS} (h : f_X7_waste v1 σ = some (r, σ')) : MM (d + 4) b mi_X7_waste [vR 0 0, vI v1] σ (some (vI r), σ') := by
  refine MM.of (lv := [some (vR 0 0), some (vI v1)]) (by decide +kernel) rfl rfl (fun X Y => ?_)
  rw [f_X7_waste] at h
  refine r_aload_n (pc' := 1) d_X7_waste_0 rfl rfl rfl ?_
  refine r_get (v := vR 1 _) (pc' := 4) fl_X7_10 d_X7_waste_1 rfl rfl (fun g => Or.inl ⟨rfl, g.2⟩) rfl ?_
  refine r_iload_n (pc' := 5) d_X7_waste_4 rfl rfl rfl ?_
  refine v1_i (mc := mi_X6_lostOf) (bc := (0, 0)) (b' := _) (pc' := 8) cw_X7_149 d_X7_waste_5 rfl rfl rfl (Nat.zero_add _).symm (Nat.zero_add _).symm rfl h (fun _ _ e => t_X6_lostOf e) (fun x2 s1 h => ?_)
  exact r_iret d_X7_waste_8 rfl h
/-! OctagonYard.near(II)I -/
def mi_X7_near : MI := (yX7_near, cX7_near, 5, (some .int))
theorem d_X7_near_0 : decode mi_X7_near.2.1 0 = .ok (.aload_n 0, 1) := by decide +kernel
theorem d_X7_near_1 : decode mi_X7_near.2.1 1 = .ok (.getfield 10, 3) := by decide +kernel
theorem d_X7_near_4 : decode mi_X7_near.2.1 4 = .ok (.iload_n 1, 1) := by decide +kernel
theorem d_X7_near_5 : decode mi_X7_near.2.1 5 = .ok (.invokevirtual 79, 3) := by decide +kernel
theorem d_X7_near_8 : decode mi_X7_near.2.1 8 = .ok (.astore_n 3, 1) := by decide +kernel
theorem d_X7_near_9 : decode mi_X7_near.2.1 9 = .ok (.aload_n 0, 1) := by decide +kernel
theorem d_X7_near_10 : decode mi_X7_near.2.1 10 = .ok (.getfield 10, 3) := by decide +kernel
theorem d_X7_near_13 : decode mi_X7_near.2.1 13 = .ok (.iload_n 2, 1) := by decide +kernel
theorem d_X7_near_14 : decode mi_X7_near.2.1 14 = .ok (.invokevirtual 79, 3) := by decide +kernel
theorem d_X7_near_17 : decode mi_X7_near.2.1 17 = .ok (.astore 4, 2) := by decide +kernel
theorem d_X7_near_19 : decode mi_X7_near.2.1 19 = .ok (.aload_n 3, 1) := by decide +kernel
theorem d_X7_near_20 : decode mi_X7_near.2.1 20 = .ok (.ifnull 13, 3) := by decide +kernel
theorem d_X7_near_23 : decode mi_X7_near.2.1 23 = .ok (.aload 4, 2) := by decide +kernel
theorem d_X7_near_25 : decode mi_X7_near.2.1 25 = .ok (.ifnull 8, 3) := by decide +kernel
theorem d_X7_near_28 : decode mi_X7_near.2.1 28 = .ok (.iload_n 1, 1) := by decide +kernel
theorem d_X7_near_29 : decode mi_X7_near.2.1 29 = .ok (.iload_n 2, 1) := by decide +kernel
theorem d_X7_near_30 : decode mi_X7_near.2.1 30 = .ok (.if_icmp .ne 5, 3) := by decide +kernel
theorem d_X7_near_33 : decode mi_X7_near.2.1 33 = .ok (.iconst (-1), 1) := by decide +kernel
theorem d_X7_near_34 : decode mi_X7_near.2.1 34 = .ok (.ireturn, 1) := by decide +kernel
theorem d_X7_near_35 : decode mi_X7_near.2.1 35 = .ok (.aload_n 3, 1) := by decide +kernel
theorem d_X7_near_36 : decode mi_X7_near.2.1 36 = .ok (.getfield 53, 3) := by decide +kernel
theorem d_X7_near_39 : decode mi_X7_near.2.1 39 = .ok (.aload 4, 2) := by decide +kernel
theorem d_X7_near_41 : decode mi_X7_near.2.1 41 = .ok (.getfield 53, 3) := by decide +kernel
theorem d_X7_near_44 : decode mi_X7_near.2.1 44 = .ok (.invokevirtual 152, 3) := by decide +kernel
theorem d_X7_near_47 : decode mi_X7_near.2.1 47 = .ok (.ifCond .eq 5, 3) := by decide +kernel
theorem d_X7_near_50 : decode mi_X7_near.2.1 50 = .ok (.iconst 2, 1) := by decide +kernel
theorem d_X7_near_51 : decode mi_X7_near.2.1 51 = .ok (.ireturn, 1) := by decide +kernel
theorem d_X7_near_52 : decode mi_X7_near.2.1 52 = .ok (.aload_n 3, 1) := by decide +kernel
theorem d_X7_near_53 : decode mi_X7_near.2.1 53 = .ok (.getfield 53, 3) := by decide +kernel
theorem d_X7_near_56 : decode mi_X7_near.2.1 56 = .ok (.aload 4, 2) := by decide +kernel
theorem d_X7_near_58 : decode mi_X7_near.2.1 58 = .ok (.getfield 53, 3) := by decide +kernel
theorem d_X7_near_61 : decode mi_X7_near.2.1 61 = .ok (.invokevirtual 156, 3) := by decide +kernel
theorem d_X7_near_64 : decode mi_X7_near.2.1 64 = .ok (.bipush (-4), 2) := by decide +kernel
theorem d_X7_near_66 : decode mi_X7_near.2.1 66 = .ok (.if_icmp .ne 7, 3) := by decide +kernel
theorem d_X7_near_69 : decode mi_X7_near.2.1 69 = .ok (.iconst 0, 1) := by decide +kernel
theorem d_X7_near_70 : decode mi_X7_near.2.1 70 = .ok (.goto 4, 3) := by decide +kernel
theorem d_X7_near_73 : decode mi_X7_near.2.1 73 = .ok (.iconst 1, 1) := by decide +kernel
theorem d_X7_near_74 : decode mi_X7_near.2.1 74 = .ok (.ireturn, 1) := by decide +kernel
theorem cw_X7_152 : CV RX7 152 mi_X3_overlaps 1 := by unfold CV; decide +kernel
theorem cw_X7_156 : CV RX7 156 mi_X3_directionTo 1 := by unfold CV; decide +kernel
def f_X7_near (v1 : Int32) (v2 : Int32) (σ : SS) : Option (Int32 × SS) := cal (f_X6_find v1 σ) (fun q2 s1 => cal (f_X6_find v2 s1) (fun q4 s3 => Option.elim q2 (some ((-1 : Int32), s3)) (fun i5 => Option.elim q4 (some ((-1 : Int32), s3)) (fun i6 => if v1 = v2 then (some ((-1 : Int32), s3)) else (cal (f_X3_overlaps i5 i6 s3) (fun x8 s7 => if x8 = 0 then (cal (f_X3_directionTo i5 i6 s7) (fun x10 s9 => if x10 = (-4 : Int32) then (some ((0 : Int32), s9)) else (some ((1 : Int32), s9)))) else (some ((2 : Int32), s7))))))))
set_option maxRecDepth 20000 in
theorem t_X7_near {d : Nat} {b : Nat × Nat} {v1 : Int32} {v2 : Int32} {σ : SS} {r : Int32} {σ' : SS} (h : f_X7_near v1 v2 σ = some (r, σ')) : MM (d + 4) b mi_X7_near [vR 0 0, vI v1, vI v2] σ (some (vI r), σ') := by
  refine MM.of (lv := [some (vR 0 0), some (vI v1), some (vI v2), none, none]) (by decide +kernel) rfl rfl (fun X Y => ?_)
  rw [f_X7_near] at h
  refine r_aload_n (pc' := 1) d_X7_near_0 rfl rfl rfl ?_
  refine r_get (v := vR 1 _) (pc' := 4) fl_X7_10 d_X7_near_1 rfl rfl (fun g => Or.inl ⟨rfl, g.2⟩) rfl ?_
  refine r_iload_n (pc' := 5) d_X7_near_4 rfl rfl rfl ?_
  refine v1_o (t := 16) (mc := mi_X6_find) (bc := (0, 0)) (b' := _) (pc' := 8) cw_X7_79 d_X7_near_5 rfl rfl rfl (Nat.zero_add _).symm (Nat.zero_add _).symm rfl h (fun _ _ e => t_X6_find e) (fun q2 s1 h => ?_)
  refine r_astore_n (pc' := 9) d_X7_near_8 rfl rfl rfl rfl ?_
  refine r_aload_n (pc' := 10) d_X7_near_9 rfl rfl rfl ?_
  refine r_get (v := vR 1 _) (pc' := 13) fl_X7_10 d_X7_near_10 rfl rfl (fun g => Or.inl ⟨rfl, g.2⟩) rfl ?_
  refine r_iload_n (pc' := 14) d_X7_near_13 rfl rfl rfl ?_
  refine v1_o (t := 16) (mc := mi_X6_find) (bc := (0, 0)) (b' := _) (pc' := 17) cw_X7_79 d_X7_near_14 rfl rfl rfl (Nat.zero_add _).symm (Nat.zero_add _).symm rfl h (fun _ _ e => t_X6_find e) (fun q4 s3 h => ?_)
  refine r_astore (pc' := 19) d_X7_near_17 rfl rfl rfl ?_
  refine r_aload_n (pc' := 20) d_X7_near_19 rfl rfl rfl ?_
  refine r_ifnull (pcT := 33) (pc' := 23) d_X7_near_20 rfl rfl h (fun e hn => ?_) (fun i5 e hn => ?_)
  · clear h; subst e; have h := hn; clear hn
    refine r_iconst (pc' := 34) d_X7_near_33 ci_m1 rfl ?_
    exact r_iret d_X7_near_34 rfl h
  · clear h; subst e; have h := hn; clear hn
    refine r_aload (pc' := 25) d_X7_near_23 rfl rfl ?_
    refine r_ifnull (pcT := 33) (pc' := 28) d_X7_near_25 rfl rfl h (fun e hn => ?_) (fun i6 e hn => ?_)
    · clear h; subst e; have h := hn; clear hn
      refine r_iconst (pc' := 34) d_X7_near_33 ci_m1 rfl ?_
      exact r_iret d_X7_near_34 rfl h
    · clear h; subst e; have h := hn; clear hn
      refine r_iload_n (pc' := 29) d_X7_near_28 rfl rfl rfl ?_
      refine r_iload_n (pc' := 30) d_X7_near_29 rfl rfl rfl ?_
      refine r_icmp_ne (pcT := 35) (pc' := 33) d_X7_near_30 rfl rfl h (fun _ h => ?_) (fun _ h => ?_)
      · refine r_iconst (pc' := 34) d_X7_near_33 ci_m1 rfl ?_
        exact r_iret d_X7_near_34 rfl h
      · refine r_aload_n (pc' := 36) d_X7_near_35 rfl rfl rfl ?_
        refine r_get (v := vR 17 _) (pc' := 39) fl_X7_53 d_X7_near_36 rfl rfl (fun g => Or.inl ⟨rfl, g.2⟩) rfl ?_
        refine r_aload (pc' := 41) d_X7_near_39 rfl rfl ?_
        refine r_get (v := vR 17 _) (pc' := 44) fl_X7_53 d_X7_near_41 rfl rfl (fun g => Or.inl ⟨rfl, g.2⟩) rfl ?_
        refine v1_i (mc := mi_X3_overlaps) (bc := (0, 0)) (b' := _) (pc' := 47) cw_X7_152 d_X7_near_44 rfl rfl rfl (Nat.zero_add _).symm (Nat.zero_add _).symm rfl h (fun _ _ e => t_X3_overlaps e) (fun x8 s7 h => ?_)
        refine r_if_eq (pcT := 52) (pc' := 50) d_X7_near_47 rfl rfl h (fun _ h => ?_) (fun _ h => ?_)
        · refine r_aload_n (pc' := 53) d_X7_near_52 rfl rfl rfl ?_
          refine r_get (v := vR 17 _) (pc' := 56) fl_X7_53 d_X7_near_53 rfl rfl (fun g => Or.inl ⟨rfl, g.2⟩) rfl ?_
          refine r_aload (pc' := 58) d_X7_near_56 rfl rfl ?_
          refine r_get (v := vR 17 _) (pc' := 61) fl_X7_53 d_X7_near_58 rfl rfl (fun g => Or.inl ⟨rfl, g.2⟩) rfl ?_
          refine v1_i (mc := mi_X3_directionTo) (bc := (0, 0)) (b' := _) (pc' := 64) cw_X7_156 d_X7_near_61 rfl rfl rfl (Nat.zero_add _).symm (Nat.zero_add _).symm rfl h (fun _ _ e => t_X3_directionTo e) (fun x10 s9 h => ?_)
          refine r_bipush (pc' := 66) d_X7_near_64 cb_m4 rfl ?_
          refine r_icmp_ne (pcT := 73) (pc' := 69) d_X7_near_66 rfl rfl h (fun _ h => ?_) (fun _ h => ?_)
          · refine r_iconst (pc' := 70) d_X7_near_69 ci_0 rfl ?_
            refine r_goto (pc' := 74) d_X7_near_70 rfl ?_
            exact r_iret d_X7_near_74 rfl h
          · refine r_iconst (pc' := 74) d_X7_near_73 ci_1 rfl ?_
            exact r_iret d_X7_near_74 rfl h
        · refine r_iconst (pc' := 51) d_X7_near_50 ci_2 rfl ?_
          exact r_iret d_X7_near_51 rfl h
/-! OctagonYard.touch(III)I -/
def mi_X7_touch : MI := (yX7_touch, cX7_touch, 7, (some .int))
theorem d_X7_touch_0 : decode mi_X7_touch.2.1 0 = .ok (.aload_n 0, 1) := by decide +kernel
theorem d_X7_touch_1 : decode mi_X7_touch.2.1 1 = .ok (.getfield 10, 3) := by decide +kernel
theorem d_X7_touch_4 : decode mi_X7_touch.2.1 4 = .ok (.iload_n 1, 1) := by decide +kernel
theorem d_X7_touch_5 : decode mi_X7_touch.2.1 5 = .ok (.invokevirtual 79, 3) := by decide +kernel
theorem d_X7_touch_8 : decode mi_X7_touch.2.1 8 = .ok (.astore 4, 2) := by decide +kernel
theorem d_X7_touch_10 : decode mi_X7_touch.2.1 10 = .ok (.aload_n 0, 1) := by decide +kernel
theorem d_X7_touch_11 : decode mi_X7_touch.2.1 11 = .ok (.getfield 10, 3) := by decide +kernel
theorem d_X7_touch_14 : decode mi_X7_touch.2.1 14 = .ok (.iload_n 2, 1) := by decide +kernel
theorem d_X7_touch_15 : decode mi_X7_touch.2.1 15 = .ok (.invokevirtual 79, 3) := by decide +kernel
theorem d_X7_touch_18 : decode mi_X7_touch.2.1 18 = .ok (.astore 5, 2) := by decide +kernel
theorem d_X7_touch_20 : decode mi_X7_touch.2.1 20 = .ok (.aload 4, 2) := by decide +kernel
theorem d_X7_touch_22 : decode mi_X7_touch.2.1 22 = .ok (.ifnull 22, 3) := by decide +kernel
theorem d_X7_touch_25 : decode mi_X7_touch.2.1 25 = .ok (.aload 5, 2) := by decide +kernel
theorem d_X7_touch_27 : decode mi_X7_touch.2.1 27 = .ok (.ifnull 17, 3) := by decide +kernel
theorem d_X7_touch_30 : decode mi_X7_touch.2.1 30 = .ok (.iload_n 1, 1) := by decide +kernel
theorem d_X7_touch_31 : decode mi_X7_touch.2.1 31 = .ok (.iload_n 2, 1) := by decide +kernel
theorem d_X7_touch_32 : decode mi_X7_touch.2.1 32 = .ok (.if_icmp .eq 12, 3) := by decide +kernel
theorem d_X7_touch_35 : decode mi_X7_touch.2.1 35 = .ok (.iload_n 3, 1) := by decide +kernel
theorem d_X7_touch_36 : decode mi_X7_touch.2.1 36 = .ok (.iconst 0, 1) := by decide +kernel
theorem d_X7_touch_37 : decode mi_X7_touch.2.1 37 = .ok (.iconst 1, 1) := by decide +kernel
theorem d_X7_touch_38 : decode mi_X7_touch.2.1 38 = .ok (.invokestatic 37, 3) := by decide +kernel
theorem d_X7_touch_41 : decode mi_X7_touch.2.1 41 = .ok (.ifCond .ne 5, 3) := by decide +kernel
theorem d_X7_touch_44 : decode mi_X7_touch.2.1 44 = .ok (.iconst (-1), 1) := by decide +kernel
theorem d_X7_touch_45 : decode mi_X7_touch.2.1 45 = .ok (.ireturn, 1) := by decide +kernel
theorem d_X7_touch_46 : decode mi_X7_touch.2.1 46 = .ok (.aload 4, 2) := by decide +kernel
theorem d_X7_touch_48 : decode mi_X7_touch.2.1 48 = .ok (.getfield 53, 3) := by decide +kernel
theorem d_X7_touch_51 : decode mi_X7_touch.2.1 51 = .ok (.aload 5, 2) := by decide +kernel
theorem d_X7_touch_53 : decode mi_X7_touch.2.1 53 = .ok (.getfield 53, 3) := by decide +kernel
theorem d_X7_touch_56 : decode mi_X7_touch.2.1 56 = .ok (.invokevirtual 156, 3) := by decide +kernel
theorem d_X7_touch_59 : decode mi_X7_touch.2.1 59 = .ok (.istore 6, 2) := by decide +kernel
theorem d_X7_touch_61 : decode mi_X7_touch.2.1 61 = .ok (.iload 6, 2) := by decide +kernel
theorem d_X7_touch_63 : decode mi_X7_touch.2.1 63 = .ok (.bipush (-4), 2) := by decide +kernel
theorem d_X7_touch_65 : decode mi_X7_touch.2.1 65 = .ok (.if_icmp .eq 7, 3) := by decide +kernel
theorem d_X7_touch_68 : decode mi_X7_touch.2.1 68 = .ok (.iload_n 3, 1) := by decide +kernel
theorem d_X7_touch_69 : decode mi_X7_touch.2.1 69 = .ok (.ifCond .ne 6, 3) := by decide +kernel
theorem d_X7_touch_72 : decode mi_X7_touch.2.1 72 = .ok (.iload 6, 2) := by decide +kernel
theorem d_X7_touch_74 : decode mi_X7_touch.2.1 74 = .ok (.ireturn, 1) := by decide +kernel
theorem d_X7_touch_75 : decode mi_X7_touch.2.1 75 = .ok (.aload 4, 2) := by decide +kernel
theorem d_X7_touch_77 : decode mi_X7_touch.2.1 77 = .ok (.getfield 53, 3) := by decide +kernel
theorem d_X7_touch_80 : decode mi_X7_touch.2.1 80 = .ok (.iload 6, 2) := by decide +kernel
theorem d_X7_touch_82 : decode mi_X7_touch.2.1 82 = .ok (.aload 5, 2) := by decide +kernel
theorem d_X7_touch_84 : decode mi_X7_touch.2.1 84 = .ok (.getfield 53, 3) := by decide +kernel
theorem d_X7_touch_87 : decode mi_X7_touch.2.1 87 = .ok (.invokevirtual 160, 3) := by decide +kernel
theorem d_X7_touch_90 : decode mi_X7_touch.2.1 90 = .ok (.ireturn, 1) := by decide +kernel
theorem cw_X7_160 : CV RX7 160 mi_X3_common 2 := by unfold CV; decide +kernel
def f_X7_touch (v1 : Int32) (v2 : Int32) (v3 : Int32) (σ : SS) : Option (Int32 × SS) := cal (f_X6_find v1 σ) (fun q2 s1 => cal (f_X6_find v2 s1) (fun q4 s3 => Option.elim q2 (some ((-1 : Int32), s3)) (fun i5 => Option.elim q4 (some ((-1 : Int32), s3)) (fun i6 => if v1 = v2 then (some ((-1 : Int32), s3)) else (cal (f_X7_isFrom v3 (0 : Int32) (1 : Int32) s3) (fun x8 s7 => if x8 = 0 then (some ((-1 : Int32), s7)) else (cal (f_X3_directionTo i5 i6 s7) (fun x10 s9 => if x10 = (-4 : Int32) then (some (x10, s9)) else (if v3 = 0 then (some (x10, s9)) else (cal (f_X3_common i5 x10 i6 s9) (fun x12 s11 => some (x12, s11))))))))))))
set_option maxRecDepth 20000 in
theorem t_X7_touch {d : Nat} {b : Nat × Nat} {v1 : Int32} {v2 : Int32} {v3 : Int32} {σ : SS} {r : Int32} {σ' : SS} (h : f_X7_touch v1 v2 v3 σ = some (r, σ')) : MM (d + 4) b mi_X7_touch [vR 0 0, vI v1, vI v2, vI v3] σ (some (vI r), σ') := by
  refine MM.of (lv := [some (vR 0 0), some (vI v1), some (vI v2), some (vI v3), none, none, none]) (by decide +kernel) rfl rfl (fun X Y => ?_)
  rw [f_X7_touch] at h
  refine r_aload_n (pc' := 1) d_X7_touch_0 rfl rfl rfl ?_
  refine r_get (v := vR 1 _) (pc' := 4) fl_X7_10 d_X7_touch_1 rfl rfl (fun g => Or.inl ⟨rfl, g.2⟩) rfl ?_
  refine r_iload_n (pc' := 5) d_X7_touch_4 rfl rfl rfl ?_
  refine v1_o (t := 16) (mc := mi_X6_find) (bc := (0, 0)) (b' := _) (pc' := 8) cw_X7_79 d_X7_touch_5 rfl rfl rfl (Nat.zero_add _).symm (Nat.zero_add _).symm rfl h (fun _ _ e => t_X6_find e) (fun q2 s1 h => ?_)
  refine r_astore (pc' := 10) d_X7_touch_8 rfl rfl rfl ?_
  refine r_aload_n (pc' := 11) d_X7_touch_10 rfl rfl rfl ?_
  refine r_get (v := vR 1 _) (pc' := 14) fl_X7_10 d_X7_touch_11 rfl rfl (fun g => Or.inl ⟨rfl, g.2⟩) rfl ?_
  refine r_iload_n (pc' := 15) d_X7_touch_14 rfl rfl rfl ?_
  refine v1_o (t := 16) (mc := mi_X6_find) (bc := (0, 0)) (b' := _) (pc' := 18) cw_X7_79 d_X7_touch_15 rfl rfl rfl (Nat.zero_add _).symm (Nat.zero_add _).symm rfl h (fun _ _ e => t_X6_find e) (fun q4 s3 h => ?_)
  refine r_astore (pc' := 20) d_X7_touch_18 rfl rfl rfl ?_
  refine r_aload (pc' := 22) d_X7_touch_20 rfl rfl ?_
  refine r_ifnull (pcT := 44) (pc' := 25) d_X7_touch_22 rfl rfl h (fun e hn => ?_) (fun i5 e hn => ?_)
  · clear h; subst e; have h := hn; clear hn
    refine r_iconst (pc' := 45) d_X7_touch_44 ci_m1 rfl ?_
    exact r_iret d_X7_touch_45 rfl h
  · clear h; subst e; have h := hn; clear hn
    refine r_aload (pc' := 27) d_X7_touch_25 rfl rfl ?_
    refine r_ifnull (pcT := 44) (pc' := 30) d_X7_touch_27 rfl rfl h (fun e hn => ?_) (fun i6 e hn => ?_)
    · clear h; subst e; have h := hn; clear hn
      refine r_iconst (pc' := 45) d_X7_touch_44 ci_m1 rfl ?_
      exact r_iret d_X7_touch_45 rfl h
    · clear h; subst e; have h := hn; clear hn
      refine r_iload_n (pc' := 31) d_X7_touch_30 rfl rfl rfl ?_
      refine r_iload_n (pc' := 32) d_X7_touch_31 rfl rfl rfl ?_
      refine r_icmp_eq (pcT := 44) (pc' := 35) d_X7_touch_32 rfl rfl h (fun _ h => ?_) (fun _ h => ?_)
      · refine r_iconst (pc' := 45) d_X7_touch_44 ci_m1 rfl ?_
        exact r_iret d_X7_touch_45 rfl h
      · refine r_iload_n (pc' := 36) d_X7_touch_35 rfl rfl rfl ?_
        refine r_iconst (pc' := 37) d_X7_touch_36 ci_0 rfl ?_
        refine r_iconst (pc' := 38) d_X7_touch_37 ci_1 rfl ?_
        refine s3_i (mc := mi_X7_isFrom) (bc := (0, 0)) (b' := _) (pc' := 41) cw_X7_37 d_X7_touch_38 rfl (Nat.zero_add _).symm (Nat.zero_add _).symm rfl h (fun _ _ e => t_X7_isFrom e) (fun x8 s7 h => ?_)
        refine r_if_ne (pcT := 46) (pc' := 44) d_X7_touch_41 rfl rfl h (fun _ h => ?_) (fun _ h => ?_)
        · refine r_iconst (pc' := 45) d_X7_touch_44 ci_m1 rfl ?_
          exact r_iret d_X7_touch_45 rfl h
        · refine r_aload (pc' := 48) d_X7_touch_46 rfl rfl ?_
          refine r_get (v := vR 17 _) (pc' := 51) fl_X7_53 d_X7_touch_48 rfl rfl (fun g => Or.inl ⟨rfl, g.2⟩) rfl ?_
          refine r_aload (pc' := 53) d_X7_touch_51 rfl rfl ?_
          refine r_get (v := vR 17 _) (pc' := 56) fl_X7_53 d_X7_touch_53 rfl rfl (fun g => Or.inl ⟨rfl, g.2⟩) rfl ?_
          refine v1_i (mc := mi_X3_directionTo) (bc := (0, 0)) (b' := _) (pc' := 59) cw_X7_156 d_X7_touch_56 rfl rfl rfl (Nat.zero_add _).symm (Nat.zero_add _).symm rfl h (fun _ _ e => t_X3_directionTo e) (fun x10 s9 h => ?_)
          refine r_istore (pc' := 61) d_X7_touch_59 rfl rfl rfl ?_
          refine r_iload (pc' := 63) d_X7_touch_61 rfl rfl ?_
          refine r_bipush (pc' := 65) d_X7_touch_63 cb_m4 rfl ?_
          refine r_icmp_eq (pcT := 72) (pc' := 68) d_X7_touch_65 rfl rfl h (fun _ h => ?_) (fun _ h => ?_)
          · refine r_iload (pc' := 74) d_X7_touch_72 rfl rfl ?_
            exact r_iret d_X7_touch_74 rfl h
          · refine r_iload_n (pc' := 69) d_X7_touch_68 rfl rfl rfl ?_
            refine r_if_ne (pcT := 75) (pc' := 72) d_X7_touch_69 rfl rfl h (fun _ h => ?_) (fun _ h => ?_)
            · refine r_iload (pc' := 74) d_X7_touch_72 rfl rfl ?_
              exact r_iret d_X7_touch_74 rfl h
            · refine r_aload (pc' := 77) d_X7_touch_75 rfl rfl ?_
              refine r_get (v := vR 17 _) (pc' := 80) fl_X7_53 d_X7_touch_77 rfl rfl (fun g => Or.inl ⟨rfl, g.2⟩) rfl ?_
              refine r_iload (pc' := 82) d_X7_touch_80 rfl rfl ?_
              refine r_aload (pc' := 84) d_X7_touch_82 rfl rfl ?_
              refine r_get (v := vR 17 _) (pc' := 87) fl_X7_53 d_X7_touch_84 rfl rfl (fun g => Or.inl ⟨rfl, g.2⟩) rfl ?_
              refine v2_i (mc := mi_X3_common) (bc := (0, 0)) (b' := _) (pc' := 90) cw_X7_160 d_X7_touch_87 rfl rfl rfl (Nat.zero_add _).symm (Nat.zero_add _).symm rfl h (fun _ _ e => t_X3_common e) (fun x12 s11 h => ?_)
              exact r_iret d_X7_touch_90 rfl h
/-! OctagonYard.rule(IIII)I -/
def mi_X7_rule : MI := (yX7_rule, cX7_rule, 5, (some .int))
theorem d_X7_rule_0 : decode mi_X7_rule.2.1 0 = .ok (.iload_n 1, 1) := by decide +kernel
theorem d_X7_rule_1 : decode mi_X7_rule.2.1 1 = .ok (.iconst 0, 1) := by decide +kernel
theorem d_X7_rule_2 : decode mi_X7_rule.2.1 2 = .ok (.bipush 9, 2) := by decide +kernel
theorem d_X7_rule_4 : decode mi_X7_rule.2.1 4 = .ok (.invokestatic 37, 3) := by decide +kernel
theorem d_X7_rule_7 : decode mi_X7_rule.2.1 7 = .ok (.ifCond .eq 13, 3) := by decide +kernel
theorem d_X7_rule_10 : decode mi_X7_rule.2.1 10 = .ok (.iload_n 2, 1) := by decide +kernel
theorem d_X7_rule_11 : decode mi_X7_rule.2.1 11 = .ok (.iconst 0, 1) := by decide +kernel
theorem d_X7_rule_12 : decode mi_X7_rule.2.1 12 = .ok (.bipush 9, 2) := by decide +kernel
theorem d_X7_rule_14 : decode mi_X7_rule.2.1 14 = .ok (.invokestatic 37, 3) := by decide +kernel
theorem d_X7_rule_17 : decode mi_X7_rule.2.1 17 = .ok (.ifCond .ne 5, 3) := by decide +kernel
theorem d_X7_rule_20 : decode mi_X7_rule.2.1 20 = .ok (.iconst (-1), 1) := by decide +kernel
theorem d_X7_rule_21 : decode mi_X7_rule.2.1 21 = .ok (.ireturn, 1) := by decide +kernel
theorem d_X7_rule_22 : decode mi_X7_rule.2.1 22 = .ok (.iload_n 3, 1) := by decide +kernel
theorem d_X7_rule_23 : decode mi_X7_rule.2.1 23 = .ok (.iconst 1, 1) := by decide +kernel
theorem d_X7_rule_24 : decode mi_X7_rule.2.1 24 = .ok (.bipush 99, 2) := by decide +kernel
theorem d_X7_rule_26 : decode mi_X7_rule.2.1 26 = .ok (.invokestatic 37, 3) := by decide +kernel
theorem d_X7_rule_29 : decode mi_X7_rule.2.1 29 = .ok (.ifCond .eq 14, 3) := by decide +kernel
theorem d_X7_rule_32 : decode mi_X7_rule.2.1 32 = .ok (.iload 4, 2) := by decide +kernel
theorem d_X7_rule_34 : decode mi_X7_rule.2.1 34 = .ok (.iconst 0, 1) := by decide +kernel
theorem d_X7_rule_35 : decode mi_X7_rule.2.1 35 = .ok (.bipush 7, 2) := by decide +kernel
theorem d_X7_rule_37 : decode mi_X7_rule.2.1 37 = .ok (.invokestatic 37, 3) := by decide +kernel
theorem d_X7_rule_40 : decode mi_X7_rule.2.1 40 = .ok (.ifCond .ne 5, 3) := by decide +kernel
theorem d_X7_rule_43 : decode mi_X7_rule.2.1 43 = .ok (.iconst (-1), 1) := by decide +kernel
theorem d_X7_rule_44 : decode mi_X7_rule.2.1 44 = .ok (.ireturn, 1) := by decide +kernel
theorem d_X7_rule_45 : decode mi_X7_rule.2.1 45 = .ok (.aload_n 0, 1) := by decide +kernel
theorem d_X7_rule_46 : decode mi_X7_rule.2.1 46 = .ok (.getfield 26, 3) := by decide +kernel
theorem d_X7_rule_49 : decode mi_X7_rule.2.1 49 = .ok (.invokevirtual 164, 3) := by decide +kernel
theorem d_X7_rule_52 : decode mi_X7_rule.2.1 52 = .ok (.ifCond .eq 8, 3) := by decide +kernel
theorem d_X7_rule_55 : decode mi_X7_rule.2.1 55 = .ok (.bipush (-3), 2) := by decide +kernel
theorem d_X7_rule_57 : decode mi_X7_rule.2.1 57 = .ok (.goto 15, 3) := by decide +kernel
theorem d_X7_rule_60 : decode mi_X7_rule.2.1 60 = .ok (.aload_n 0, 1) := by decide +kernel
theorem d_X7_rule_61 : decode mi_X7_rule.2.1 61 = .ok (.getfield 26, 3) := by decide +kernel
theorem d_X7_rule_64 : decode mi_X7_rule.2.1 64 = .ok (.iload_n 1, 1) := by decide +kernel
theorem d_X7_rule_65 : decode mi_X7_rule.2.1 65 = .ok (.iload_n 2, 1) := by decide +kernel
theorem d_X7_rule_66 : decode mi_X7_rule.2.1 66 = .ok (.iload_n 3, 1) := by decide +kernel
theorem d_X7_rule_67 : decode mi_X7_rule.2.1 67 = .ok (.iload 4, 2) := by decide +kernel
theorem d_X7_rule_69 : decode mi_X7_rule.2.1 69 = .ok (.invokevirtual 165, 3) := by decide +kernel
theorem d_X7_rule_72 : decode mi_X7_rule.2.1 72 = .ok (.ireturn, 1) := by decide +kernel
theorem cb_99 : (Int8.ofInt (99)).toInt32 = 99 := by decide
theorem fl_X7_26 : FL RX7 26 7 4 2 := ⟨RX7, TX7, rfl, by decide, rfl, by decide +kernel, in_7⟩
theorem cw_X7_164 : CV RX7 164 mi_X5_isFull 0 := by unfold CV; decide +kernel
theorem cw_X7_165 : CV RX7 165 mi_X5_add 4 := by unfold CV; decide +kernel
def f_X7_rule (v1 : Int32) (v2 : Int32) (v3 : Int32) (v4 : Int32) (σ : SS) : Option (Int32 × SS) := cal (f_X7_isFrom v1 (0 : Int32) (9 : Int32) σ) (fun x2 s1 => if x2 = 0 then (some ((-1 : Int32), s1)) else (cal (f_X7_isFrom v2 (0 : Int32) (9 : Int32) s1) (fun x4 s3 => if x4 = 0 then (some ((-1 : Int32), s3)) else (cal (f_X7_isFrom v3 (1 : Int32) (99 : Int32) s3) (fun x6 s5 => if x6 = 0 then (some ((-1 : Int32), s5)) else (cal (f_X7_isFrom v4 (0 : Int32) (7 : Int32) s5) (fun x8 s7 => if x8 = 0 then (some ((-1 : Int32), s7)) else (cal (f_X5_isFull  s7) (fun x10 s9 => if x10 = 0 then (cal (f_X5_add v1 v2 v3 v4 s9) (fun x12 s11 => some (x12, s11))) else (some ((-3 : Int32), s9)))))))))))
set_option maxRecDepth 20000 in
theorem t_X7_rule {d : Nat} {b : Nat × Nat} {v1 : Int32} {v2 : Int32} {v3 : Int32} {v4 : Int32} {σ : SS} {r : Int32} {σ' : SS} (h : f_X7_rule v1 v2 v3 v4 σ = some (r, σ')) : MM (d + 1) b mi_X7_rule [vR 0 0, vI v1, vI v2, vI v3, vI v4] σ (some (vI r), σ') := by
  refine MM.of (lv := [some (vR 0 0), some (vI v1), some (vI v2), some (vI v3), some (vI v4)]) (by decide +kernel) rfl rfl (fun X Y => ?_)
  rw [f_X7_rule] at h
  refine r_iload_n (pc' := 1) d_X7_rule_0 rfl rfl rfl ?_
  refine r_iconst (pc' := 2) d_X7_rule_1 ci_0 rfl ?_
  refine r_bipush (pc' := 4) d_X7_rule_2 cb_9 rfl ?_
  refine s3_i (mc := mi_X7_isFrom) (bc := (0, 0)) (b' := _) (pc' := 7) cw_X7_37 d_X7_rule_4 rfl (Nat.zero_add _).symm (Nat.zero_add _).symm rfl h (fun _ _ e => t_X7_isFrom e) (fun x2 s1 h => ?_)
  refine r_if_eq (pcT := 20) (pc' := 10) d_X7_rule_7 rfl rfl h (fun _ h => ?_) (fun _ h => ?_)
  · refine r_iconst (pc' := 21) d_X7_rule_20 ci_m1 rfl ?_
    exact r_iret d_X7_rule_21 rfl h
  · refine r_iload_n (pc' := 11) d_X7_rule_10 rfl rfl rfl ?_
    refine r_iconst (pc' := 12) d_X7_rule_11 ci_0 rfl ?_
    refine r_bipush (pc' := 14) d_X7_rule_12 cb_9 rfl ?_
    refine s3_i (mc := mi_X7_isFrom) (bc := (0, 0)) (b' := _) (pc' := 17) cw_X7_37 d_X7_rule_14 rfl (Nat.zero_add _).symm (Nat.zero_add _).symm rfl h (fun _ _ e => t_X7_isFrom e) (fun x4 s3 h => ?_)
    refine r_if_ne (pcT := 22) (pc' := 20) d_X7_rule_17 rfl rfl h (fun _ h => ?_) (fun _ h => ?_)
    · refine r_iconst (pc' := 21) d_X7_rule_20 ci_m1 rfl ?_
      exact r_iret d_X7_rule_21 rfl h
    · refine r_iload_n (pc' := 23) d_X7_rule_22 rfl rfl rfl ?_
      refine r_iconst (pc' := 24) d_X7_rule_23 ci_1 rfl ?_
      refine r_bipush (pc' := 26) d_X7_rule_24 cb_99 rfl ?_
      refine s3_i (mc := mi_X7_isFrom) (bc := (0, 0)) (b' := _) (pc' := 29) cw_X7_37 d_X7_rule_26 rfl (Nat.zero_add _).symm (Nat.zero_add _).symm rfl h (fun _ _ e => t_X7_isFrom e) (fun x6 s5 h => ?_)
      refine r_if_eq (pcT := 43) (pc' := 32) d_X7_rule_29 rfl rfl h (fun _ h => ?_) (fun _ h => ?_)
      · refine r_iconst (pc' := 44) d_X7_rule_43 ci_m1 rfl ?_
        exact r_iret d_X7_rule_44 rfl h
      · refine r_iload (pc' := 34) d_X7_rule_32 rfl rfl ?_
        refine r_iconst (pc' := 35) d_X7_rule_34 ci_0 rfl ?_
        refine r_bipush (pc' := 37) d_X7_rule_35 cb_7 rfl ?_
        refine s3_i (mc := mi_X7_isFrom) (bc := (0, 0)) (b' := _) (pc' := 40) cw_X7_37 d_X7_rule_37 rfl (Nat.zero_add _).symm (Nat.zero_add _).symm rfl h (fun _ _ e => t_X7_isFrom e) (fun x8 s7 h => ?_)
        refine r_if_ne (pcT := 45) (pc' := 43) d_X7_rule_40 rfl rfl h (fun _ h => ?_) (fun _ h => ?_)
        · refine r_iconst (pc' := 44) d_X7_rule_43 ci_m1 rfl ?_
          exact r_iret d_X7_rule_44 rfl h
        · refine r_aload_n (pc' := 46) d_X7_rule_45 rfl rfl rfl ?_
          refine r_get (v := vR 7 _) (pc' := 49) fl_X7_26 d_X7_rule_46 rfl rfl (fun g => Or.inl ⟨rfl, g.2⟩) rfl ?_
          refine v0_i (mc := mi_X5_isFull) (bc := (0, 0)) (b' := _) (pc' := 52) cw_X7_164 d_X7_rule_49 rfl rfl rfl (Nat.zero_add _).symm (Nat.zero_add _).symm rfl h (fun _ _ e => t_X5_isFull e) (fun x10 s9 h => ?_)
          refine r_if_eq (pcT := 60) (pc' := 55) d_X7_rule_52 rfl rfl h (fun _ h => ?_) (fun _ h => ?_)
          · refine r_aload_n (pc' := 61) d_X7_rule_60 rfl rfl rfl ?_
            refine r_get (v := vR 7 _) (pc' := 64) fl_X7_26 d_X7_rule_61 rfl rfl (fun g => Or.inl ⟨rfl, g.2⟩) rfl ?_
            refine r_iload_n (pc' := 65) d_X7_rule_64 rfl rfl rfl ?_
            refine r_iload_n (pc' := 66) d_X7_rule_65 rfl rfl rfl ?_
            refine r_iload_n (pc' := 67) d_X7_rule_66 rfl rfl rfl ?_
            refine r_iload (pc' := 69) d_X7_rule_67 rfl rfl ?_
            refine v4_i (mc := mi_X5_add) (bc := (0, 0)) (b' := _) (pc' := 72) cw_X7_165 d_X7_rule_69 rfl rfl rfl (Nat.zero_add _).symm (Nat.zero_add _).symm rfl h (fun _ _ e => t_X5_add e) (fun x12 s11 h => ?_)
            exact r_iret d_X7_rule_72 rfl h
          · refine r_bipush (pc' := 57) d_X7_rule_55 cb_m3 rfl ?_
            refine r_goto (pc' := 72) d_X7_rule_57 rfl ?_
            exact r_iret d_X7_rule_72 rfl h
/-! OctagonYard.pack(IZ)I -/
def mi_X7_pack : MI := (yX7_pack, cX7_pack, 3, (some .int))
theorem d_X7_pack_0 : decode mi_X7_pack.2.1 0 = .ok (.iload_n 1, 1) := by decide +kernel
theorem d_X7_pack_1 : decode mi_X7_pack.2.1 1 = .ok (.iconst 0, 1) := by decide +kernel
theorem d_X7_pack_2 : decode mi_X7_pack.2.1 2 = .ok (.bipush 7, 2) := by decide +kernel
theorem d_X7_pack_4 : decode mi_X7_pack.2.1 4 = .ok (.invokestatic 37, 3) := by decide +kernel
theorem d_X7_pack_7 : decode mi_X7_pack.2.1 7 = .ok (.ifCond .eq 11, 3) := by decide +kernel
theorem d_X7_pack_10 : decode mi_X7_pack.2.1 10 = .ok (.iload_n 1, 1) := by decide +kernel
theorem d_X7_pack_11 : decode mi_X7_pack.2.1 11 = .ok (.ifCond .ne 9, 3) := by decide +kernel
theorem d_X7_pack_14 : decode mi_X7_pack.2.1 14 = .ok (.iload_n 2, 1) := by decide +kernel
theorem d_X7_pack_15 : decode mi_X7_pack.2.1 15 = .ok (.ifCond .ne 5, 3) := by decide +kernel
theorem d_X7_pack_18 : decode mi_X7_pack.2.1 18 = .ok (.iconst (-1), 1) := by decide +kernel
theorem d_X7_pack_19 : decode mi_X7_pack.2.1 19 = .ok (.ireturn, 1) := by decide +kernel
theorem d_X7_pack_20 : decode mi_X7_pack.2.1 20 = .ok (.aload_n 0, 1) := by decide +kernel
theorem d_X7_pack_21 : decode mi_X7_pack.2.1 21 = .ok (.getfield 26, 3) := by decide +kernel
theorem d_X7_pack_24 : decode mi_X7_pack.2.1 24 = .ok (.iload_n 1, 1) := by decide +kernel
theorem d_X7_pack_25 : decode mi_X7_pack.2.1 25 = .ok (.iload_n 2, 1) := by decide +kernel
theorem d_X7_pack_26 : decode mi_X7_pack.2.1 26 = .ok (.invokevirtual 168, 3) := by decide +kernel
theorem d_X7_pack_29 : decode mi_X7_pack.2.1 29 = .ok (.ireturn, 1) := by decide +kernel
theorem cw_X7_168 : CV RX7 168 mi_X5_switchPack 2 := by unfold CV; decide +kernel
def f_X7_pack_20 (v1 : Int32) (v2 : Int32) (σ : SS) : Option (Int32 × SS) := cal (f_X5_switchPack v1 v2 σ) (fun x2 s1 => some (x2, s1))
set_option maxRecDepth 20000 in
theorem t_X7_pack_20 {d : Nat} {X : MX} {Y : MY} {b : Nat × Nat} {r : Int32} {σ' : SS} {v1 : Int32} {v2 : Int32} {σ : SS} (h : f_X7_pack_20 v1 v2 σ = some (r, σ')) : WM (d + 1) X Y b mi_X7_pack 20 [some (vR 0 0), some (vI v1), some (vI v2)] [] σ (some (vI r), σ') := by
  rw [f_X7_pack_20] at h
  refine r_aload_n (pc' := 21) d_X7_pack_20 rfl rfl rfl ?_
  refine r_get (v := vR 7 _) (pc' := 24) fl_X7_26 d_X7_pack_21 rfl rfl (fun g => Or.inl ⟨rfl, g.2⟩) rfl ?_
  refine r_iload_n (pc' := 25) d_X7_pack_24 rfl rfl rfl ?_
  refine r_iload_n (pc' := 26) d_X7_pack_25 rfl rfl rfl ?_
  refine v2_i (mc := mi_X5_switchPack) (bc := (0, 0)) (b' := _) (pc' := 29) cw_X7_168 d_X7_pack_26 rfl rfl rfl (Nat.zero_add _).symm (Nat.zero_add _).symm rfl h (fun _ _ e => t_X5_switchPack e) (fun x2 s1 h => ?_)
  exact r_iret d_X7_pack_29 rfl h
def f_X7_pack (v1 : Int32) (v2 : Int32) (σ : SS) : Option (Int32 × SS) := cal (f_X7_isFrom v1 (0 : Int32) (7 : Int32) σ) (fun x2 s1 => if x2 = 0 then (some ((-1 : Int32), s1)) else (if v1 = 0 then (if v2 = 0 then (some ((-1 : Int32), s1)) else (f_X7_pack_20 v1 v2 s1)) else (f_X7_pack_20 v1 v2 s1)))
set_option maxRecDepth 20000 in
theorem t_X7_pack {d : Nat} {b : Nat × Nat} {v1 : Int32} {v2 : Int32} {σ : SS} {r : Int32} {σ' : SS} (h : f_X7_pack v1 v2 σ = some (r, σ')) : MM (d + 1) b mi_X7_pack [vR 0 0, vI v1, vI v2] σ (some (vI r), σ') := by
  refine MM.of (lv := [some (vR 0 0), some (vI v1), some (vI v2)]) (by decide +kernel) rfl rfl (fun X Y => ?_)
  rw [f_X7_pack] at h
  refine r_iload_n (pc' := 1) d_X7_pack_0 rfl rfl rfl ?_
  refine r_iconst (pc' := 2) d_X7_pack_1 ci_0 rfl ?_
  refine r_bipush (pc' := 4) d_X7_pack_2 cb_7 rfl ?_
  refine s3_i (mc := mi_X7_isFrom) (bc := (0, 0)) (b' := _) (pc' := 7) cw_X7_37 d_X7_pack_4 rfl (Nat.zero_add _).symm (Nat.zero_add _).symm rfl h (fun _ _ e => t_X7_isFrom e) (fun x2 s1 h => ?_)
  refine r_if_eq (pcT := 18) (pc' := 10) d_X7_pack_7 rfl rfl h (fun _ h => ?_) (fun _ h => ?_)
  · refine r_iconst (pc' := 19) d_X7_pack_18 ci_m1 rfl ?_
    exact r_iret d_X7_pack_19 rfl h
  · refine r_iload_n (pc' := 11) d_X7_pack_10 rfl rfl rfl ?_
    refine r_if_ne (pcT := 20) (pc' := 14) d_X7_pack_11 rfl rfl h (fun _ h => ?_) (fun _ h => ?_)
    · refine r_iload_n (pc' := 15) d_X7_pack_14 rfl rfl rfl ?_
      refine r_if_ne (pcT := 20) (pc' := 18) d_X7_pack_15 rfl rfl h (fun _ h => ?_) (fun _ h => ?_)
      · refine r_iconst (pc' := 19) d_X7_pack_18 ci_m1 rfl ?_
        exact r_iret d_X7_pack_19 rfl h
      · exact WM.drop [] rfl (t_X7_pack_20 h)
    · exact WM.drop [] rfl (t_X7_pack_20 h)
/-! OctagonYard.above(III)I -/
def mi_X7_above : MI := (yX7_above, cX7_above, 4, (some .int))
theorem d_X7_above_0 : decode mi_X7_above.2.1 0 = .ok (.iload_n 1, 1) := by decide +kernel
theorem d_X7_above_1 : decode mi_X7_above.2.1 1 = .ok (.iconst 0, 1) := by decide +kernel
theorem d_X7_above_2 : decode mi_X7_above.2.1 2 = .ok (.iconst 5, 1) := by decide +kernel
theorem d_X7_above_3 : decode mi_X7_above.2.1 3 = .ok (.invokestatic 37, 3) := by decide +kernel
theorem d_X7_above_6 : decode mi_X7_above.2.1 6 = .ok (.ifCond .eq 16, 3) := by decide +kernel
theorem d_X7_above_9 : decode mi_X7_above.2.1 9 = .ok (.iload_n 2, 1) := by decide +kernel
theorem d_X7_above_10 : decode mi_X7_above.2.1 10 = .ok (.iconst 0, 1) := by decide +kernel
theorem d_X7_above_11 : decode mi_X7_above.2.1 11 = .ok (.iconst 5, 1) := by decide +kernel
theorem d_X7_above_12 : decode mi_X7_above.2.1 12 = .ok (.invokestatic 37, 3) := by decide +kernel
theorem d_X7_above_15 : decode mi_X7_above.2.1 15 = .ok (.ifCond .eq 7, 3) := by decide +kernel
theorem d_X7_above_18 : decode mi_X7_above.2.1 18 = .ok (.iload_n 3, 1) := by decide +kernel
theorem d_X7_above_19 : decode mi_X7_above.2.1 19 = .ok (.ifCond .ge 5, 3) := by decide +kernel
theorem d_X7_above_22 : decode mi_X7_above.2.1 22 = .ok (.iconst (-1), 1) := by decide +kernel
theorem d_X7_above_23 : decode mi_X7_above.2.1 23 = .ok (.ireturn, 1) := by decide +kernel
theorem d_X7_above_24 : decode mi_X7_above.2.1 24 = .ok (.aload_n 0, 1) := by decide +kernel
theorem d_X7_above_25 : decode mi_X7_above.2.1 25 = .ok (.getfield 26, 3) := by decide +kernel
theorem d_X7_above_28 : decode mi_X7_above.2.1 28 = .ok (.iload_n 1, 1) := by decide +kernel
theorem d_X7_above_29 : decode mi_X7_above.2.1 29 = .ok (.iload_n 2, 1) := by decide +kernel
theorem d_X7_above_30 : decode mi_X7_above.2.1 30 = .ok (.iload_n 3, 1) := by decide +kernel
theorem d_X7_above_31 : decode mi_X7_above.2.1 31 = .ok (.invokevirtual 172, 3) := by decide +kernel
theorem d_X7_above_34 : decode mi_X7_above.2.1 34 = .ok (.ireturn, 1) := by decide +kernel
theorem cw_X7_172 : CV RX7 172 mi_X5_inOrder 3 := by unfold CV; decide +kernel
def f_X7_above (v1 : Int32) (v2 : Int32) (v3 : Int32) (σ : SS) : Option (Int32 × SS) := cal (f_X7_isFrom v1 (0 : Int32) (5 : Int32) σ) (fun x2 s1 => if x2 = 0 then (some ((-1 : Int32), s1)) else (cal (f_X7_isFrom v2 (0 : Int32) (5 : Int32) s1) (fun x4 s3 => if x4 = 0 then (some ((-1 : Int32), s3)) else (if 0 ≤ v3 then (cal (f_X5_inOrder v1 v2 v3 s3) (fun x6 s5 => some (x6, s5))) else (some ((-1 : Int32), s3))))))
set_option maxRecDepth 20000 in
theorem t_X7_above {d : Nat} {b : Nat × Nat} {v1 : Int32} {v2 : Int32} {v3 : Int32} {σ : SS} {r : Int32} {σ' : SS} (h : f_X7_above v1 v2 v3 σ = some (r, σ')) : MM (d + 5) b mi_X7_above [vR 0 0, vI v1, vI v2, vI v3] σ (some (vI r), σ') := by
  refine MM.of (lv := [some (vR 0 0), some (vI v1), some (vI v2), some (vI v3)]) (by decide +kernel) rfl rfl (fun X Y => ?_)
  rw [f_X7_above] at h
  refine r_iload_n (pc' := 1) d_X7_above_0 rfl rfl rfl ?_
  refine r_iconst (pc' := 2) d_X7_above_1 ci_0 rfl ?_
  refine r_iconst (pc' := 3) d_X7_above_2 ci_5 rfl ?_
  refine s3_i (mc := mi_X7_isFrom) (bc := (0, 0)) (b' := _) (pc' := 6) cw_X7_37 d_X7_above_3 rfl (Nat.zero_add _).symm (Nat.zero_add _).symm rfl h (fun _ _ e => t_X7_isFrom e) (fun x2 s1 h => ?_)
  refine r_if_eq (pcT := 22) (pc' := 9) d_X7_above_6 rfl rfl h (fun _ h => ?_) (fun _ h => ?_)
  · refine r_iconst (pc' := 23) d_X7_above_22 ci_m1 rfl ?_
    exact r_iret d_X7_above_23 rfl h
  · refine r_iload_n (pc' := 10) d_X7_above_9 rfl rfl rfl ?_
    refine r_iconst (pc' := 11) d_X7_above_10 ci_0 rfl ?_
    refine r_iconst (pc' := 12) d_X7_above_11 ci_5 rfl ?_
    refine s3_i (mc := mi_X7_isFrom) (bc := (0, 0)) (b' := _) (pc' := 15) cw_X7_37 d_X7_above_12 rfl (Nat.zero_add _).symm (Nat.zero_add _).symm rfl h (fun _ _ e => t_X7_isFrom e) (fun x4 s3 h => ?_)
    refine r_if_eq (pcT := 22) (pc' := 18) d_X7_above_15 rfl rfl h (fun _ h => ?_) (fun _ h => ?_)
    · refine r_iconst (pc' := 23) d_X7_above_22 ci_m1 rfl ?_
      exact r_iret d_X7_above_23 rfl h
    · refine r_iload_n (pc' := 19) d_X7_above_18 rfl rfl rfl ?_
      refine r_if_ge (pcT := 24) (pc' := 22) d_X7_above_19 rfl rfl h (fun _ h => ?_) (fun _ h => ?_)
      · refine r_aload_n (pc' := 25) d_X7_above_24 rfl rfl rfl ?_
        refine r_get (v := vR 7 _) (pc' := 28) fl_X7_26 d_X7_above_25 rfl rfl (fun g => Or.inl ⟨rfl, g.2⟩) rfl ?_
        refine r_iload_n (pc' := 29) d_X7_above_28 rfl rfl rfl ?_
        refine r_iload_n (pc' := 30) d_X7_above_29 rfl rfl rfl ?_
        refine r_iload_n (pc' := 31) d_X7_above_30 rfl rfl rfl ?_
        refine v3_i (mc := mi_X5_inOrder) (bc := (0, 0)) (b' := _) (pc' := 34) cw_X7_172 d_X7_above_31 rfl rfl rfl (Nat.zero_add _).symm (Nat.zero_add _).symm rfl h (fun _ _ e => t_X5_inOrder e) (fun x6 s5 h => ?_)
        exact r_iret d_X7_above_34 rfl h
      · refine r_iconst (pc' := 23) d_X7_above_22 ci_m1 rfl ?_
        exact r_iret d_X7_above_23 rfl h
/-! OctagonYard.treats(II)I -/
def mi_X7_treats : MI := (yX7_treats, cX7_treats, 3, (some .int))
theorem d_X7_treats_0 : decode mi_X7_treats.2.1 0 = .ok (.iload_n 1, 1) := by decide +kernel
theorem d_X7_treats_1 : decode mi_X7_treats.2.1 1 = .ok (.iconst 0, 1) := by decide +kernel
theorem d_X7_treats_2 : decode mi_X7_treats.2.1 2 = .ok (.iconst 5, 1) := by decide +kernel
theorem d_X7_treats_3 : decode mi_X7_treats.2.1 3 = .ok (.invokestatic 37, 3) := by decide +kernel
theorem d_X7_treats_6 : decode mi_X7_treats.2.1 6 = .ok (.ifCond .eq 12, 3) := by decide +kernel
theorem d_X7_treats_9 : decode mi_X7_treats.2.1 9 = .ok (.iload_n 2, 1) := by decide +kernel
theorem d_X7_treats_10 : decode mi_X7_treats.2.1 10 = .ok (.iconst 0, 1) := by decide +kernel
theorem d_X7_treats_11 : decode mi_X7_treats.2.1 11 = .ok (.iconst 5, 1) := by decide +kernel
theorem d_X7_treats_12 : decode mi_X7_treats.2.1 12 = .ok (.invokestatic 37, 3) := by decide +kernel
theorem d_X7_treats_15 : decode mi_X7_treats.2.1 15 = .ok (.ifCond .ne 5, 3) := by decide +kernel
theorem d_X7_treats_18 : decode mi_X7_treats.2.1 18 = .ok (.iconst (-1), 1) := by decide +kernel
theorem d_X7_treats_19 : decode mi_X7_treats.2.1 19 = .ok (.ireturn, 1) := by decide +kernel
theorem d_X7_treats_20 : decode mi_X7_treats.2.1 20 = .ok (.aload_n 0, 1) := by decide +kernel
theorem d_X7_treats_21 : decode mi_X7_treats.2.1 21 = .ok (.getfield 26, 3) := by decide +kernel
theorem d_X7_treats_24 : decode mi_X7_treats.2.1 24 = .ok (.iload_n 1, 1) := by decide +kernel
theorem d_X7_treats_25 : decode mi_X7_treats.2.1 25 = .ok (.iload_n 2, 1) := by decide +kernel
theorem d_X7_treats_26 : decode mi_X7_treats.2.1 26 = .ok (.invokevirtual 176, 3) := by decide +kernel
theorem d_X7_treats_29 : decode mi_X7_treats.2.1 29 = .ok (.ireturn, 1) := by decide +kernel
theorem cw_X7_176 : CV RX7 176 mi_X5_decide 2 := by unfold CV; decide +kernel
def f_X7_treats (v1 : Int32) (v2 : Int32) (σ : SS) : Option (Int32 × SS) := cal (f_X7_isFrom v1 (0 : Int32) (5 : Int32) σ) (fun x2 s1 => if x2 = 0 then (some ((-1 : Int32), s1)) else (cal (f_X7_isFrom v2 (0 : Int32) (5 : Int32) s1) (fun x4 s3 => if x4 = 0 then (some ((-1 : Int32), s3)) else (cal (f_X5_decide v1 v2 s3) (fun x6 s5 => some (x6, s5))))))
set_option maxRecDepth 20000 in
theorem t_X7_treats {d : Nat} {b : Nat × Nat} {v1 : Int32} {v2 : Int32} {σ : SS} {r : Int32} {σ' : SS} (h : f_X7_treats v1 v2 σ = some (r, σ')) : MM (d + 5) b mi_X7_treats [vR 0 0, vI v1, vI v2] σ (some (vI r), σ') := by
  refine MM.of (lv := [some (vR 0 0), some (vI v1), some (vI v2)]) (by decide +kernel) rfl rfl (fun X Y => ?_)
  rw [f_X7_treats] at h
  refine r_iload_n (pc' := 1) d_X7_treats_0 rfl rfl rfl ?_
  refine r_iconst (pc' := 2) d_X7_treats_1 ci_0 rfl ?_
  refine r_iconst (pc' := 3) d_X7_treats_2 ci_5 rfl ?_
  refine s3_i (mc := mi_X7_isFrom) (bc := (0, 0)) (b' := _) (pc' := 6) cw_X7_37 d_X7_treats_3 rfl (Nat.zero_add _).symm (Nat.zero_add _).symm rfl h (fun _ _ e => t_X7_isFrom e) (fun x2 s1 h => ?_)
  refine r_if_eq (pcT := 18) (pc' := 9) d_X7_treats_6 rfl rfl h (fun _ h => ?_) (fun _ h => ?_)
  · refine r_iconst (pc' := 19) d_X7_treats_18 ci_m1 rfl ?_
    exact r_iret d_X7_treats_19 rfl h
  · refine r_iload_n (pc' := 10) d_X7_treats_9 rfl rfl rfl ?_
    refine r_iconst (pc' := 11) d_X7_treats_10 ci_0 rfl ?_
    refine r_iconst (pc' := 12) d_X7_treats_11 ci_5 rfl ?_
    refine s3_i (mc := mi_X7_isFrom) (bc := (0, 0)) (b' := _) (pc' := 15) cw_X7_37 d_X7_treats_12 rfl (Nat.zero_add _).symm (Nat.zero_add _).symm rfl h (fun _ _ e => t_X7_isFrom e) (fun x4 s3 h => ?_)
    refine r_if_ne (pcT := 20) (pc' := 18) d_X7_treats_15 rfl rfl h (fun _ h => ?_) (fun _ h => ?_)
    · refine r_iconst (pc' := 19) d_X7_treats_18 ci_m1 rfl ?_
      exact r_iret d_X7_treats_19 rfl h
    · refine r_aload_n (pc' := 21) d_X7_treats_20 rfl rfl rfl ?_
      refine r_get (v := vR 7 _) (pc' := 24) fl_X7_26 d_X7_treats_21 rfl rfl (fun g => Or.inl ⟨rfl, g.2⟩) rfl ?_
      refine r_iload_n (pc' := 25) d_X7_treats_24 rfl rfl rfl ?_
      refine r_iload_n (pc' := 26) d_X7_treats_25 rfl rfl rfl ?_
      refine v2_i (mc := mi_X5_decide) (bc := (0, 0)) (b' := _) (pc' := 29) cw_X7_176 d_X7_treats_26 rfl rfl rfl (Nat.zero_add _).symm (Nat.zero_add _).symm rfl h (fun _ _ e => t_X5_decide e) (fun x6 s5 h => ?_)
      exact r_iret d_X7_treats_29 rfl h
/-! OctagonYard.undecided()I -/
def mi_X7_undecided : MI := (yX7_undecided, cX7_undecided, 4, (some .int))
theorem d_X7_undecided_0 : decode mi_X7_undecided.2.1 0 = .ok (.iconst 0, 1) := by decide +kernel
theorem d_X7_undecided_1 : decode mi_X7_undecided.2.1 1 = .ok (.istore_n 1, 1) := by decide +kernel
theorem d_X7_undecided_2 : decode mi_X7_undecided.2.1 2 = .ok (.iconst 0, 1) := by decide +kernel
theorem d_X7_undecided_3 : decode mi_X7_undecided.2.1 3 = .ok (.istore_n 2, 1) := by decide +kernel
theorem d_X7_undecided_4 : decode mi_X7_undecided.2.1 4 = .ok (.iload_n 2, 1) := by decide +kernel
theorem d_X7_undecided_5 : decode mi_X7_undecided.2.1 5 = .ok (.bipush 6, 2) := by decide +kernel
theorem d_X7_undecided_7 : decode mi_X7_undecided.2.1 7 = .ok (.if_icmp .ge 40, 3) := by decide +kernel
theorem d_X7_undecided_10 : decode mi_X7_undecided.2.1 10 = .ok (.iconst 0, 1) := by decide +kernel
theorem d_X7_undecided_11 : decode mi_X7_undecided.2.1 11 = .ok (.istore_n 3, 1) := by decide +kernel
theorem d_X7_undecided_12 : decode mi_X7_undecided.2.1 12 = .ok (.iload_n 3, 1) := by decide +kernel
theorem d_X7_undecided_13 : decode mi_X7_undecided.2.1 13 = .ok (.bipush 6, 2) := by decide +kernel
theorem d_X7_undecided_15 : decode mi_X7_undecided.2.1 15 = .ok (.if_icmp .ge 26, 3) := by decide +kernel
theorem d_X7_undecided_18 : decode mi_X7_undecided.2.1 18 = .ok (.aload_n 0, 1) := by decide +kernel
theorem d_X7_undecided_19 : decode mi_X7_undecided.2.1 19 = .ok (.getfield 26, 3) := by decide +kernel
theorem d_X7_undecided_22 : decode mi_X7_undecided.2.1 22 = .ok (.iload_n 2, 1) := by decide +kernel
theorem d_X7_undecided_23 : decode mi_X7_undecided.2.1 23 = .ok (.iload_n 3, 1) := by decide +kernel
theorem d_X7_undecided_24 : decode mi_X7_undecided.2.1 24 = .ok (.invokevirtual 176, 3) := by decide +kernel
theorem d_X7_undecided_27 : decode mi_X7_undecided.2.1 27 = .ok (.bipush (-5), 2) := by decide +kernel
theorem d_X7_undecided_29 : decode mi_X7_undecided.2.1 29 = .ok (.if_icmp .ne 6, 3) := by decide +kernel
theorem d_X7_undecided_32 : decode mi_X7_undecided.2.1 32 = .ok (.iinc 1 1, 3) := by decide +kernel
theorem d_X7_undecided_35 : decode mi_X7_undecided.2.1 35 = .ok (.iinc 3 1, 3) := by decide +kernel
theorem d_X7_undecided_38 : decode mi_X7_undecided.2.1 38 = .ok (.goto (-26), 3) := by decide +kernel
theorem d_X7_undecided_41 : decode mi_X7_undecided.2.1 41 = .ok (.iinc 2 1, 3) := by decide +kernel
theorem d_X7_undecided_44 : decode mi_X7_undecided.2.1 44 = .ok (.goto (-40), 3) := by decide +kernel
theorem d_X7_undecided_47 : decode mi_X7_undecided.2.1 47 = .ok (.iload_n 1, 1) := by decide +kernel
theorem d_X7_undecided_48 : decode mi_X7_undecided.2.1 48 = .ok (.ireturn, 1) := by decide +kernel
def f_X7_undecided_41 (K4 : Int32 → Int32 → SS → Option (Int32 × SS)) (v1 : Int32) (v2 : Int32) (σ : SS) : Option (Int32 × SS) := lt_ (v2 + (1 : Int32)) (fun x1 => K4 v1 x1 σ)
set_option maxRecDepth 20000 in
theorem t_X7_undecided_41 {d : Nat} {X : MX} {Y : MY} {b : Nat × Nat} {r : Int32} {σ' : SS} {K4 : Int32 → Int32 → SS → Option (Int32 × SS)} {v1 : Int32} {v2 : Int32} (hK4 : ∀ (v1 : Int32) (v2 : Int32) (σ : SS), K4 v1 v2 σ = some (r, σ') → WM (d + 5) X Y b mi_X7_undecided 4 [some (vR 0 0), some (vI v1), some (vI v2), none] [] σ (some (vI r), σ')) {σ : SS} (h : f_X7_undecided_41 K4 v1 v2 σ = some (r, σ')) : WM (d + 5) X Y b mi_X7_undecided 41 [some (vR 0 0), some (vI v1), some (vI v2), none] [] σ (some (vI r), σ') := by
  rw [f_X7_undecided_41] at h
  refine l_iinc (pc' := 44) d_X7_undecided_41 rfl ci_1 rfl rfl rfl h (fun x1 h => ?_)
  refine r_goto (pc' := 4) d_X7_undecided_44 rfl ?_
  exact WM.drop [] rfl (hK4 _ _ _ h)
def f_X7_undecided_35 (K4 : Int32 → Int32 → SS → Option (Int32 × SS)) (K12 : Int32 → Int32 → Int32 → SS → Option (Int32 × SS)) (v1 : Int32) (v2 : Int32) (v3 : Int32) (σ : SS) : Option (Int32 × SS) := lt_ (v3 + (1 : Int32)) (fun x1 => K12 v1 v2 x1 σ)
set_option maxRecDepth 20000 in
theorem t_X7_undecided_35 {d : Nat} {X : MX} {Y : MY} {b : Nat × Nat} {r : Int32} {σ' : SS} {K4 : Int32 → Int32 → SS → Option (Int32 × SS)} {K12 : Int32 → Int32 → Int32 → SS → Option (Int32 × SS)} {v1 : Int32} {v2 : Int32} {v3 : Int32} (hK4 : ∀ (v1 : Int32) (v2 : Int32) (σ : SS), K4 v1 v2 σ = some (r, σ') → WM (d + 5) X Y b mi_X7_undecided 4 [some (vR 0 0), some (vI v1), some (vI v2), none] [] σ (some (vI r), σ')) (hK12 : ∀ (v1 : Int32) (v2 : Int32) (v3 : Int32) (σ : SS), K12 v1 v2 v3 σ = some (r, σ') → WM (d + 5) X Y b mi_X7_undecided 12 [some (vR 0 0), some (vI v1), some (vI v2), some (vI v3)] [] σ (some (vI r), σ')) {σ : SS} (h : f_X7_undecided_35 K4 K12 v1 v2 v3 σ = some (r, σ')) : WM (d + 5) X Y b mi_X7_undecided 35 [some (vR 0 0), some (vI v1), some (vI v2), some (vI v3)] [] σ (some (vI r), σ') := by
  rw [f_X7_undecided_35] at h
  refine l_iinc (pc' := 38) d_X7_undecided_35 rfl ci_1 rfl rfl rfl h (fun x1 h => ?_)
  refine r_goto (pc' := 12) d_X7_undecided_38 rfl ?_
  exact WM.drop [] rfl (hK12 _ _ _ _ h)
def f_X7_undecided_12 (K4 : Int32 → Int32 → SS → Option (Int32 × SS)) : Nat → Int32 → Int32 → Int32 → SS → Option (Int32 × SS)
  | 0, _, _, _, _ => none
  | n + 1, v1, v2, v3, σ => if (6 : Int32) ≤ v3 then (f_X7_undecided_41 K4 v1 v2 σ) else (cal (f_X5_decide v2 v3 σ) (fun x2 s1 => if x2 = (-5 : Int32) then (lt_ (v1 + (1 : Int32)) (fun x3 => f_X7_undecided_35 K4 (f_X7_undecided_12 K4 n) x3 v2 v3 s1)) else (f_X7_undecided_35 K4 (f_X7_undecided_12 K4 n) v1 v2 v3 s1)))
set_option maxRecDepth 20000 in
theorem t_X7_undecided_12 {d : Nat} {X : MX} {Y : MY} {b : Nat × Nat} {r : Int32} {σ' : SS} {K4 : Int32 → Int32 → SS → Option (Int32 × SS)} (hK4 : ∀ (v1 : Int32) (v2 : Int32) (σ : SS), K4 v1 v2 σ = some (r, σ') → WM (d + 5) X Y b mi_X7_undecided 4 [some (vR 0 0), some (vI v1), some (vI v2), none] [] σ (some (vI r), σ')) : ∀ (n : Nat) (v1 : Int32) (v2 : Int32) (v3 : Int32) (σ : SS), f_X7_undecided_12 K4 n v1 v2 v3 σ = some (r, σ') → WM (d + 5) X Y b mi_X7_undecided 12 [some (vR 0 0), some (vI v1), some (vI v2), some (vI v3)] [] σ (some (vI r), σ') := by
  intro n
  induction n with
  | zero => intro _ _ _ σ h; cases h
  | succ n ih =>
    intro v1 v2 v3 σ h
    rw [f_X7_undecided_12] at h
    refine r_iload_n (pc' := 13) d_X7_undecided_12 rfl rfl rfl ?_
    refine r_bipush (pc' := 15) d_X7_undecided_13 cb_6 rfl ?_
    refine r_icmp_ge (pcT := 41) (pc' := 18) d_X7_undecided_15 rfl rfl h (fun _ h => ?_) (fun _ h => ?_)
    · exact WM.drop [3] rfl (t_X7_undecided_41 hK4 h)
    · refine r_aload_n (pc' := 19) d_X7_undecided_18 rfl rfl rfl ?_
      refine r_get (v := vR 7 _) (pc' := 22) fl_X7_26 d_X7_undecided_19 rfl rfl (fun g => Or.inl ⟨rfl, g.2⟩) rfl ?_
      refine r_iload_n (pc' := 23) d_X7_undecided_22 rfl rfl rfl ?_
      refine r_iload_n (pc' := 24) d_X7_undecided_23 rfl rfl rfl ?_
      refine v2_i (mc := mi_X5_decide) (bc := (0, 0)) (b' := _) (pc' := 27) cw_X7_176 d_X7_undecided_24 rfl rfl rfl (Nat.zero_add _).symm (Nat.zero_add _).symm rfl h (fun _ _ e => t_X5_decide e) (fun x2 s1 h => ?_)
      refine r_bipush (pc' := 29) d_X7_undecided_27 cb_m5 rfl ?_
      refine r_icmp_ne (pcT := 35) (pc' := 32) d_X7_undecided_29 rfl rfl h (fun _ h => ?_) (fun _ h => ?_)
      · refine l_iinc (pc' := 35) d_X7_undecided_32 rfl ci_1 rfl rfl rfl h (fun x3 h => ?_)
        exact WM.drop [] rfl (t_X7_undecided_35 hK4 ih h)
      · exact WM.drop [] rfl (t_X7_undecided_35 hK4 ih h)
def f_X7_undecided_4 : Nat → Int32 → Int32 → SS → Option (Int32 × SS)
  | 0, _, _, _ => none
  | n + 1, v1, v2, σ => if (6 : Int32) ≤ v2 then (some (v1, σ)) else (f_X7_undecided_12 (f_X7_undecided_4 n) FU v1 v2 (0 : Int32) σ)
set_option maxRecDepth 20000 in
theorem t_X7_undecided_4 {d : Nat} {X : MX} {Y : MY} {b : Nat × Nat} {r : Int32} {σ' : SS} : ∀ (n : Nat) (v1 : Int32) (v2 : Int32) (σ : SS), f_X7_undecided_4 n v1 v2 σ = some (r, σ') → WM (d + 5) X Y b mi_X7_undecided 4 [some (vR 0 0), some (vI v1), some (vI v2), none] [] σ (some (vI r), σ') := by
  intro n
  induction n with
  | zero => intro _ _ σ h; cases h
  | succ n ih =>
    intro v1 v2 σ h
    rw [f_X7_undecided_4] at h
    refine r_iload_n (pc' := 5) d_X7_undecided_4 rfl rfl rfl ?_
    refine r_bipush (pc' := 7) d_X7_undecided_5 cb_6 rfl ?_
    refine r_icmp_ge (pcT := 47) (pc' := 10) d_X7_undecided_7 rfl rfl h (fun _ h => ?_) (fun _ h => ?_)
    · refine r_iload_n (pc' := 48) d_X7_undecided_47 rfl rfl rfl ?_
      exact r_iret d_X7_undecided_48 rfl h
    · refine r_iconst (pc' := 11) d_X7_undecided_10 ci_0 rfl ?_
      refine r_istore_n (pc' := 12) d_X7_undecided_11 rfl rfl rfl rfl ?_
      exact WM.drop [] rfl (t_X7_undecided_12 ih _ _ _ _ _ h)
def f_X7_undecided (σ : SS) : Option (Int32 × SS) := f_X7_undecided_4 FU (0 : Int32) (0 : Int32) σ
set_option maxRecDepth 20000 in
theorem t_X7_undecided {d : Nat} {b : Nat × Nat} {σ : SS} {r : Int32} {σ' : SS} (h : f_X7_undecided σ = some (r, σ')) : MM (d + 5) b mi_X7_undecided [vR 0 0] σ (some (vI r), σ') := by
  refine MM.of (lv := [some (vR 0 0), none, none, none]) (by decide +kernel) rfl rfl (fun X Y => ?_)
  rw [f_X7_undecided] at h
  refine r_iconst (pc' := 1) d_X7_undecided_0 ci_0 rfl ?_
  refine r_istore_n (pc' := 2) d_X7_undecided_1 rfl rfl rfl rfl ?_
  refine r_iconst (pc' := 3) d_X7_undecided_2 ci_0 rfl ?_
  refine r_istore_n (pc' := 4) d_X7_undecided_3 rfl rfl rfl rfl ?_
  exact WM.drop [] rfl (t_X7_undecided_4 _ _ _ _ h)
/-! OctagonYard.meet(II)I -/
def mi_X7_meet : MI := (yX7_meet, cX7_meet, 6, (some .int))
theorem d_X7_meet_0 : decode mi_X7_meet.2.1 0 = .ok (.aload_n 0, 1) := by decide +kernel
theorem d_X7_meet_1 : decode mi_X7_meet.2.1 1 = .ok (.getfield 10, 3) := by decide +kernel
theorem d_X7_meet_4 : decode mi_X7_meet.2.1 4 = .ok (.iload_n 1, 1) := by decide +kernel
theorem d_X7_meet_5 : decode mi_X7_meet.2.1 5 = .ok (.invokevirtual 79, 3) := by decide +kernel
theorem d_X7_meet_8 : decode mi_X7_meet.2.1 8 = .ok (.astore_n 3, 1) := by decide +kernel
theorem d_X7_meet_9 : decode mi_X7_meet.2.1 9 = .ok (.aload_n 0, 1) := by decide +kernel
theorem d_X7_meet_10 : decode mi_X7_meet.2.1 10 = .ok (.getfield 10, 3) := by decide +kernel
theorem d_X7_meet_13 : decode mi_X7_meet.2.1 13 = .ok (.iload_n 2, 1) := by decide +kernel
theorem d_X7_meet_14 : decode mi_X7_meet.2.1 14 = .ok (.invokevirtual 79, 3) := by decide +kernel
theorem d_X7_meet_17 : decode mi_X7_meet.2.1 17 = .ok (.astore 4, 2) := by decide +kernel
theorem d_X7_meet_19 : decode mi_X7_meet.2.1 19 = .ok (.aload_n 3, 1) := by decide +kernel
theorem d_X7_meet_20 : decode mi_X7_meet.2.1 20 = .ok (.ifnull 13, 3) := by decide +kernel
theorem d_X7_meet_23 : decode mi_X7_meet.2.1 23 = .ok (.aload 4, 2) := by decide +kernel
theorem d_X7_meet_25 : decode mi_X7_meet.2.1 25 = .ok (.ifnull 8, 3) := by decide +kernel
theorem d_X7_meet_28 : decode mi_X7_meet.2.1 28 = .ok (.iload_n 1, 1) := by decide +kernel
theorem d_X7_meet_29 : decode mi_X7_meet.2.1 29 = .ok (.iload_n 2, 1) := by decide +kernel
theorem d_X7_meet_30 : decode mi_X7_meet.2.1 30 = .ok (.if_icmp .ne 5, 3) := by decide +kernel
theorem d_X7_meet_33 : decode mi_X7_meet.2.1 33 = .ok (.iconst (-1), 1) := by decide +kernel
theorem d_X7_meet_34 : decode mi_X7_meet.2.1 34 = .ok (.ireturn, 1) := by decide +kernel
theorem d_X7_meet_35 : decode mi_X7_meet.2.1 35 = .ok (.aload_n 3, 1) := by decide +kernel
theorem d_X7_meet_36 : decode mi_X7_meet.2.1 36 = .ok (.getfield 53, 3) := by decide +kernel
theorem d_X7_meet_39 : decode mi_X7_meet.2.1 39 = .ok (.aload 4, 2) := by decide +kernel
theorem d_X7_meet_41 : decode mi_X7_meet.2.1 41 = .ok (.getfield 53, 3) := by decide +kernel
theorem d_X7_meet_44 : decode mi_X7_meet.2.1 44 = .ok (.invokevirtual 156, 3) := by decide +kernel
theorem d_X7_meet_47 : decode mi_X7_meet.2.1 47 = .ok (.bipush (-4), 2) := by decide +kernel
theorem d_X7_meet_49 : decode mi_X7_meet.2.1 49 = .ok (.if_icmp .ne 6, 3) := by decide +kernel
theorem d_X7_meet_52 : decode mi_X7_meet.2.1 52 = .ok (.bipush (-2), 2) := by decide +kernel
theorem d_X7_meet_54 : decode mi_X7_meet.2.1 54 = .ok (.ireturn, 1) := by decide +kernel
theorem d_X7_meet_55 : decode mi_X7_meet.2.1 55 = .ok (.aload_n 0, 1) := by decide +kernel
theorem d_X7_meet_56 : decode mi_X7_meet.2.1 56 = .ok (.getfield 26, 3) := by decide +kernel
theorem d_X7_meet_59 : decode mi_X7_meet.2.1 59 = .ok (.aload_n 3, 1) := by decide +kernel
theorem d_X7_meet_60 : decode mi_X7_meet.2.1 60 = .ok (.getfield 53, 3) := by decide +kernel
theorem d_X7_meet_63 : decode mi_X7_meet.2.1 63 = .ok (.invokevirtual 120, 3) := by decide +kernel
theorem d_X7_meet_66 : decode mi_X7_meet.2.1 66 = .ok (.aload 4, 2) := by decide +kernel
theorem d_X7_meet_68 : decode mi_X7_meet.2.1 68 = .ok (.getfield 53, 3) := by decide +kernel
theorem d_X7_meet_71 : decode mi_X7_meet.2.1 71 = .ok (.invokevirtual 120, 3) := by decide +kernel
theorem d_X7_meet_74 : decode mi_X7_meet.2.1 74 = .ok (.invokevirtual 176, 3) := by decide +kernel
theorem d_X7_meet_77 : decode mi_X7_meet.2.1 77 = .ok (.istore 5, 2) := by decide +kernel
theorem d_X7_meet_79 : decode mi_X7_meet.2.1 79 = .ok (.iload 5, 2) := by decide +kernel
theorem d_X7_meet_81 : decode mi_X7_meet.2.1 81 = .ok (.ifCond .ge 8, 3) := by decide +kernel
theorem d_X7_meet_84 : decode mi_X7_meet.2.1 84 = .ok (.iload 5, 2) := by decide +kernel
theorem d_X7_meet_86 : decode mi_X7_meet.2.1 86 = .ok (.goto 13, 3) := by decide +kernel
theorem d_X7_meet_89 : decode mi_X7_meet.2.1 89 = .ok (.aload_n 0, 1) := by decide +kernel
theorem d_X7_meet_90 : decode mi_X7_meet.2.1 90 = .ok (.getfield 26, 3) := by decide +kernel
theorem d_X7_meet_93 : decode mi_X7_meet.2.1 93 = .ok (.getfield 179, 3) := by decide +kernel
theorem d_X7_meet_96 : decode mi_X7_meet.2.1 96 = .ok (.iload 5, 2) := by decide +kernel
theorem d_X7_meet_98 : decode mi_X7_meet.2.1 98 = .ok (.iaload, 1) := by decide +kernel
theorem d_X7_meet_99 : decode mi_X7_meet.2.1 99 = .ok (.ireturn, 1) := by decide +kernel
theorem fl_X7_179 : FL RX7 179 5 6 2 := ⟨RX5, TX5, rfl, by decide, rfl, by decide +kernel, in_5⟩
def f_X7_meet (v1 : Int32) (v2 : Int32) (σ : SS) : Option (Int32 × SS) := cal (f_X6_find v1 σ) (fun q2 s1 => cal (f_X6_find v2 s1) (fun q4 s3 => Option.elim q2 (some ((-1 : Int32), s3)) (fun i5 => Option.elim q4 (some ((-1 : Int32), s3)) (fun i6 => if v1 = v2 then (some ((-1 : Int32), s3)) else (cal (f_X3_directionTo i5 i6 s3) (fun x8 s7 => if x8 = (-4 : Int32) then (some ((-2 : Int32), s7)) else (cal (f_X3_kind i5 s7) (fun x10 s9 => cal (f_X3_kind i6 s9) (fun x12 s11 => cal (f_X5_decide x10 x12 s11) (fun x14 s13 => if 0 ≤ x14 then (chk (inr x14 40) (some ((s13.1 10 0 (ix x14)), s13))) else (some (x14, s13))))))))))))
set_option maxRecDepth 20000 in
theorem t_X7_meet {d : Nat} {b : Nat × Nat} {v1 : Int32} {v2 : Int32} {σ : SS} {r : Int32} {σ' : SS} (h : f_X7_meet v1 v2 σ = some (r, σ')) : MM (d + 5) b mi_X7_meet [vR 0 0, vI v1, vI v2] σ (some (vI r), σ') := by
  refine MM.of (lv := [some (vR 0 0), some (vI v1), some (vI v2), none, none, none]) (by decide +kernel) rfl rfl (fun X Y => ?_)
  rw [f_X7_meet] at h
  refine r_aload_n (pc' := 1) d_X7_meet_0 rfl rfl rfl ?_
  refine r_get (v := vR 1 _) (pc' := 4) fl_X7_10 d_X7_meet_1 rfl rfl (fun g => Or.inl ⟨rfl, g.2⟩) rfl ?_
  refine r_iload_n (pc' := 5) d_X7_meet_4 rfl rfl rfl ?_
  refine v1_o (t := 16) (mc := mi_X6_find) (bc := (0, 0)) (b' := _) (pc' := 8) cw_X7_79 d_X7_meet_5 rfl rfl rfl (Nat.zero_add _).symm (Nat.zero_add _).symm rfl h (fun _ _ e => t_X6_find e) (fun q2 s1 h => ?_)
  refine r_astore_n (pc' := 9) d_X7_meet_8 rfl rfl rfl rfl ?_
  refine r_aload_n (pc' := 10) d_X7_meet_9 rfl rfl rfl ?_
  refine r_get (v := vR 1 _) (pc' := 13) fl_X7_10 d_X7_meet_10 rfl rfl (fun g => Or.inl ⟨rfl, g.2⟩) rfl ?_
  refine r_iload_n (pc' := 14) d_X7_meet_13 rfl rfl rfl ?_
  refine v1_o (t := 16) (mc := mi_X6_find) (bc := (0, 0)) (b' := _) (pc' := 17) cw_X7_79 d_X7_meet_14 rfl rfl rfl (Nat.zero_add _).symm (Nat.zero_add _).symm rfl h (fun _ _ e => t_X6_find e) (fun q4 s3 h => ?_)
  refine r_astore (pc' := 19) d_X7_meet_17 rfl rfl rfl ?_
  refine r_aload_n (pc' := 20) d_X7_meet_19 rfl rfl rfl ?_
  refine r_ifnull (pcT := 33) (pc' := 23) d_X7_meet_20 rfl rfl h (fun e hn => ?_) (fun i5 e hn => ?_)
  · clear h; subst e; have h := hn; clear hn
    refine r_iconst (pc' := 34) d_X7_meet_33 ci_m1 rfl ?_
    exact r_iret d_X7_meet_34 rfl h
  · clear h; subst e; have h := hn; clear hn
    refine r_aload (pc' := 25) d_X7_meet_23 rfl rfl ?_
    refine r_ifnull (pcT := 33) (pc' := 28) d_X7_meet_25 rfl rfl h (fun e hn => ?_) (fun i6 e hn => ?_)
    · clear h; subst e; have h := hn; clear hn
      refine r_iconst (pc' := 34) d_X7_meet_33 ci_m1 rfl ?_
      exact r_iret d_X7_meet_34 rfl h
    · clear h; subst e; have h := hn; clear hn
      refine r_iload_n (pc' := 29) d_X7_meet_28 rfl rfl rfl ?_
      refine r_iload_n (pc' := 30) d_X7_meet_29 rfl rfl rfl ?_
      refine r_icmp_ne (pcT := 35) (pc' := 33) d_X7_meet_30 rfl rfl h (fun _ h => ?_) (fun _ h => ?_)
      · refine r_iconst (pc' := 34) d_X7_meet_33 ci_m1 rfl ?_
        exact r_iret d_X7_meet_34 rfl h
      · refine r_aload_n (pc' := 36) d_X7_meet_35 rfl rfl rfl ?_
        refine r_get (v := vR 17 _) (pc' := 39) fl_X7_53 d_X7_meet_36 rfl rfl (fun g => Or.inl ⟨rfl, g.2⟩) rfl ?_
        refine r_aload (pc' := 41) d_X7_meet_39 rfl rfl ?_
        refine r_get (v := vR 17 _) (pc' := 44) fl_X7_53 d_X7_meet_41 rfl rfl (fun g => Or.inl ⟨rfl, g.2⟩) rfl ?_
        refine v1_i (mc := mi_X3_directionTo) (bc := (0, 0)) (b' := _) (pc' := 47) cw_X7_156 d_X7_meet_44 rfl rfl rfl (Nat.zero_add _).symm (Nat.zero_add _).symm rfl h (fun _ _ e => t_X3_directionTo e) (fun x8 s7 h => ?_)
        refine r_bipush (pc' := 49) d_X7_meet_47 cb_m4 rfl ?_
        refine r_icmp_ne (pcT := 55) (pc' := 52) d_X7_meet_49 rfl rfl h (fun _ h => ?_) (fun _ h => ?_)
        · refine r_bipush (pc' := 54) d_X7_meet_52 cb_m2 rfl ?_
          exact r_iret d_X7_meet_54 rfl h
        · refine r_aload_n (pc' := 56) d_X7_meet_55 rfl rfl rfl ?_
          refine r_get (v := vR 7 _) (pc' := 59) fl_X7_26 d_X7_meet_56 rfl rfl (fun g => Or.inl ⟨rfl, g.2⟩) rfl ?_
          refine r_aload_n (pc' := 60) d_X7_meet_59 rfl rfl rfl ?_
          refine r_get (v := vR 17 _) (pc' := 63) fl_X7_53 d_X7_meet_60 rfl rfl (fun g => Or.inl ⟨rfl, g.2⟩) rfl ?_
          refine v0_i (mc := mi_X3_kind) (bc := (0, 0)) (b' := _) (pc' := 66) cw_X7_120 d_X7_meet_63 rfl rfl rfl (Nat.zero_add _).symm (Nat.zero_add _).symm rfl h (fun _ _ e => t_X3_kind e) (fun x10 s9 h => ?_)
          refine r_aload (pc' := 68) d_X7_meet_66 rfl rfl ?_
          refine r_get (v := vR 17 _) (pc' := 71) fl_X7_53 d_X7_meet_68 rfl rfl (fun g => Or.inl ⟨rfl, g.2⟩) rfl ?_
          refine v0_i (mc := mi_X3_kind) (bc := (0, 0)) (b' := _) (pc' := 74) cw_X7_120 d_X7_meet_71 rfl rfl rfl (Nat.zero_add _).symm (Nat.zero_add _).symm rfl h (fun _ _ e => t_X3_kind e) (fun x12 s11 h => ?_)
          refine v2_i (mc := mi_X5_decide) (bc := (0, 0)) (b' := _) (pc' := 77) cw_X7_176 d_X7_meet_74 rfl rfl rfl (Nat.zero_add _).symm (Nat.zero_add _).symm rfl h (fun _ _ e => t_X5_decide e) (fun x14 s13 h => ?_)
          refine r_istore (pc' := 79) d_X7_meet_77 rfl rfl rfl ?_
          refine r_iload (pc' := 81) d_X7_meet_79 rfl rfl ?_
          refine r_if_ge (pcT := 89) (pc' := 84) d_X7_meet_81 rfl rfl h (fun _ h => ?_) (fun _ h => ?_)
          · refine r_aload_n (pc' := 90) d_X7_meet_89 rfl rfl rfl ?_
            refine r_get (v := vR 7 _) (pc' := 93) fl_X7_26 d_X7_meet_90 rfl rfl (fun g => Or.inl ⟨rfl, g.2⟩) rfl ?_
            refine r_get (v := vR 10 _) (pc' := 96) fl_X7_179 d_X7_meet_93 rfl rfl (fun g => Or.inl ⟨rfl, g.2⟩) rfl ?_
            refine r_iload (pc' := 98) d_X7_meet_96 rfl rfl ?_
            refine r_iaload (pc' := 99) d_X7_meet_98 rfl (fun _ => rfl) rfl h (fun h => ?_)
            exact r_iret d_X7_meet_99 rfl h
          · refine r_iload (pc' := 86) d_X7_meet_84 rfl rfl ?_
            refine r_goto (pc' := 99) d_X7_meet_86 rfl ?_
            exact r_iret d_X7_meet_99 rfl h
/-! OctagonYard.assembly()I -/
def mi_X7_assembly : MI := (yX7_assembly, cX7_assembly, 1, (some .int))
theorem d_X7_assembly_0 : decode mi_X7_assembly.2.1 0 = .ok (.aload_n 0, 1) := by decide +kernel
theorem d_X7_assembly_1 : decode mi_X7_assembly.2.1 1 = .ok (.getfield 33, 3) := by decide +kernel
theorem d_X7_assembly_4 : decode mi_X7_assembly.2.1 4 = .ok (.invokevirtual 182, 3) := by decide +kernel
theorem d_X7_assembly_7 : decode mi_X7_assembly.2.1 7 = .ok (.ifCond .eq 8, 3) := by decide +kernel
theorem d_X7_assembly_10 : decode mi_X7_assembly.2.1 10 = .ok (.bipush (-3), 2) := by decide +kernel
theorem d_X7_assembly_12 : decode mi_X7_assembly.2.1 12 = .ok (.goto 10, 3) := by decide +kernel
theorem d_X7_assembly_15 : decode mi_X7_assembly.2.1 15 = .ok (.aload_n 0, 1) := by decide +kernel
theorem d_X7_assembly_16 : decode mi_X7_assembly.2.1 16 = .ok (.getfield 33, 3) := by decide +kernel
theorem d_X7_assembly_19 : decode mi_X7_assembly.2.1 19 = .ok (.invokevirtual 183, 3) := by decide +kernel
theorem d_X7_assembly_22 : decode mi_X7_assembly.2.1 22 = .ok (.ireturn, 1) := by decide +kernel
theorem cw_X7_182 : CV RX7 182 mi_X0_isFull 0 := by unfold CV; decide +kernel
theorem cw_X7_183 : CV RX7 183 mi_X0_add 0 := by unfold CV; decide +kernel
def f_X7_assembly (σ : SS) : Option (Int32 × SS) := cal (f_X0_isFull  σ) (fun x2 s1 => if x2 = 0 then (cal (f_X0_add  s1) (fun x4 s3 => some (x4, s3))) else (some ((-3 : Int32), s1)))
set_option maxRecDepth 20000 in
theorem t_X7_assembly {d : Nat} {σ : SS} {r : Int32} {σ' : SS} (h : f_X7_assembly σ = some (r, σ')) : MM (d + 3) (3, 45) mi_X7_assembly [vR 0 0] σ (some (vI r), σ') := by
  refine MM.of (lv := [some (vR 0 0)]) (by decide +kernel) rfl rfl (fun X Y => ?_)
  rw [f_X7_assembly] at h
  refine r_aload_n (pc' := 1) d_X7_assembly_0 rfl rfl rfl ?_
  refine r_get (v := vR 12 _) (pc' := 4) fl_X7_33 d_X7_assembly_1 rfl rfl (fun g => Or.inl ⟨rfl, g.2⟩) rfl ?_
  refine v0_i (mc := mi_X0_isFull) (bc := (0, 0)) (b' := _) (pc' := 7) cw_X7_182 d_X7_assembly_4 rfl rfl rfl (Nat.zero_add _).symm (Nat.zero_add _).symm rfl h (fun _ _ e => t_X0_isFull e) (fun x2 s1 h => ?_)
  refine r_if_eq (pcT := 15) (pc' := 10) d_X7_assembly_7 rfl rfl h (fun _ h => ?_) (fun _ h => ?_)
  · refine r_aload_n (pc' := 16) d_X7_assembly_15 rfl rfl rfl ?_
    refine r_get (v := vR 12 _) (pc' := 19) fl_X7_33 d_X7_assembly_16 rfl rfl (fun g => Or.inl ⟨rfl, g.2⟩) rfl ?_
    refine v0_i (mc := mi_X0_add) (bc := (3, 45)) (b' := (0, 0)) (pc' := 22) cw_X7_183 d_X7_assembly_19 rfl rfl rfl rfl rfl rfl h (fun _ _ e => t_X0_add e) (fun x4 s3 h => ?_)
    exact r_iret d_X7_assembly_22 rfl h
  · refine r_bipush (pc' := 12) d_X7_assembly_10 cb_m3 rfl ?_
    refine r_goto (pc' := 22) d_X7_assembly_12 rfl ?_
    exact r_iret d_X7_assembly_22 rfl h
/-! OctagonYard.put(IIZ)I -/
def mi_X7_put : MI := (yX7_put, cX7_put, 4, (some .int))
theorem d_X7_put_0 : decode mi_X7_put.2.1 0 = .ok (.aload_n 0, 1) := by decide +kernel
theorem d_X7_put_1 : decode mi_X7_put.2.1 1 = .ok (.getfield 33, 3) := by decide +kernel
theorem d_X7_put_4 : decode mi_X7_put.2.1 4 = .ok (.iload_n 1, 1) := by decide +kernel
theorem d_X7_put_5 : decode mi_X7_put.2.1 5 = .ok (.invokevirtual 185, 3) := by decide +kernel
theorem d_X7_put_8 : decode mi_X7_put.2.1 8 = .ok (.ifCond .ne 5, 3) := by decide +kernel
theorem d_X7_put_11 : decode mi_X7_put.2.1 11 = .ok (.iconst (-1), 1) := by decide +kernel
theorem d_X7_put_12 : decode mi_X7_put.2.1 12 = .ok (.ireturn, 1) := by decide +kernel
theorem d_X7_put_13 : decode mi_X7_put.2.1 13 = .ok (.iload_n 3, 1) := by decide +kernel
theorem d_X7_put_14 : decode mi_X7_put.2.1 14 = .ok (.ifCond .eq 17, 3) := by decide +kernel
theorem d_X7_put_17 : decode mi_X7_put.2.1 17 = .ok (.aload_n 0, 1) := by decide +kernel
theorem d_X7_put_18 : decode mi_X7_put.2.1 18 = .ok (.getfield 33, 3) := by decide +kernel
theorem d_X7_put_21 : decode mi_X7_put.2.1 21 = .ok (.iload_n 2, 1) := by decide +kernel
theorem d_X7_put_22 : decode mi_X7_put.2.1 22 = .ok (.invokevirtual 185, 3) := by decide +kernel
theorem d_X7_put_25 : decode mi_X7_put.2.1 25 = .ok (.ifCond .ne 19, 3) := by decide +kernel
theorem d_X7_put_28 : decode mi_X7_put.2.1 28 = .ok (.goto 14, 3) := by decide +kernel
theorem d_X7_put_31 : decode mi_X7_put.2.1 31 = .ok (.aload_n 0, 1) := by decide +kernel
theorem d_X7_put_32 : decode mi_X7_put.2.1 32 = .ok (.getfield 10, 3) := by decide +kernel
theorem d_X7_put_35 : decode mi_X7_put.2.1 35 = .ok (.iload_n 2, 1) := by decide +kernel
theorem d_X7_put_36 : decode mi_X7_put.2.1 36 = .ok (.invokevirtual 79, 3) := by decide +kernel
theorem d_X7_put_39 : decode mi_X7_put.2.1 39 = .ok (.ifnonnull 5, 3) := by decide +kernel
theorem d_X7_put_42 : decode mi_X7_put.2.1 42 = .ok (.iconst (-1), 1) := by decide +kernel
theorem d_X7_put_43 : decode mi_X7_put.2.1 43 = .ok (.ireturn, 1) := by decide +kernel
theorem d_X7_put_44 : decode mi_X7_put.2.1 44 = .ok (.iload_n 3, 1) := by decide +kernel
theorem d_X7_put_45 : decode mi_X7_put.2.1 45 = .ok (.ifCond .eq 15, 3) := by decide +kernel
theorem d_X7_put_48 : decode mi_X7_put.2.1 48 = .ok (.aload_n 0, 1) := by decide +kernel
theorem d_X7_put_49 : decode mi_X7_put.2.1 49 = .ok (.getfield 33, 3) := by decide +kernel
theorem d_X7_put_52 : decode mi_X7_put.2.1 52 = .ok (.iload_n 1, 1) := by decide +kernel
theorem d_X7_put_53 : decode mi_X7_put.2.1 53 = .ok (.iload_n 2, 1) := by decide +kernel
theorem d_X7_put_54 : decode mi_X7_put.2.1 54 = .ok (.invokevirtual 188, 3) := by decide +kernel
theorem d_X7_put_57 : decode mi_X7_put.2.1 57 = .ok (.goto 12, 3) := by decide +kernel
theorem d_X7_put_60 : decode mi_X7_put.2.1 60 = .ok (.aload_n 0, 1) := by decide +kernel
theorem d_X7_put_61 : decode mi_X7_put.2.1 61 = .ok (.getfield 33, 3) := by decide +kernel
theorem d_X7_put_64 : decode mi_X7_put.2.1 64 = .ok (.iload_n 1, 1) := by decide +kernel
theorem d_X7_put_65 : decode mi_X7_put.2.1 65 = .ok (.iload_n 2, 1) := by decide +kernel
theorem d_X7_put_66 : decode mi_X7_put.2.1 66 = .ok (.invokevirtual 191, 3) := by decide +kernel
theorem d_X7_put_69 : decode mi_X7_put.2.1 69 = .ok (.ireturn, 1) := by decide +kernel
theorem cw_X7_185 : CV RX7 185 mi_X0_has 1 := by unfold CV; decide +kernel
theorem cw_X7_188 : CV RX7 188 mi_X0_joinAssembly 2 := by unfold CV; decide +kernel
theorem cw_X7_191 : CV RX7 191 mi_X0_joinPiece 2 := by unfold CV; decide +kernel
def f_X7_put_44 (v1 : Int32) (v2 : Int32) (v3 : Int32) (σ : SS) : Option (Int32 × SS) := if v3 = 0 then (cal (f_X0_joinPiece v1 v2 σ) (fun x2 s1 => some (x2, s1))) else (cal (f_X0_joinAssembly v1 v2 σ) (fun x4 s3 => some (x4, s3)))
set_option maxRecDepth 20000 in
theorem t_X7_put_44 {d : Nat} {X : MX} {Y : MY} {b : Nat × Nat} {r : Int32} {σ' : SS} {v1 : Int32} {v2 : Int32} {v3 : Int32} {σ : SS} (h : f_X7_put_44 v1 v2 v3 σ = some (r, σ')) : WM (d + 3) X Y b mi_X7_put 44 [some (vR 0 0), some (vI v1), some (vI v2), some (vI v3)] [] σ (some (vI r), σ') := by
  rw [f_X7_put_44] at h
  refine r_iload_n (pc' := 45) d_X7_put_44 rfl rfl rfl ?_
  refine r_if_eq (pcT := 60) (pc' := 48) d_X7_put_45 rfl rfl h (fun _ h => ?_) (fun _ h => ?_)
  · refine r_aload_n (pc' := 61) d_X7_put_60 rfl rfl rfl ?_
    refine r_get (v := vR 12 _) (pc' := 64) fl_X7_33 d_X7_put_61 rfl rfl (fun g => Or.inl ⟨rfl, g.2⟩) rfl ?_
    refine r_iload_n (pc' := 65) d_X7_put_64 rfl rfl rfl ?_
    refine r_iload_n (pc' := 66) d_X7_put_65 rfl rfl rfl ?_
    refine v2_i (mc := mi_X0_joinPiece) (bc := (0, 0)) (b' := _) (pc' := 69) cw_X7_191 d_X7_put_66 rfl rfl rfl (Nat.zero_add _).symm (Nat.zero_add _).symm rfl h (fun _ _ e => t_X0_joinPiece e) (fun x2 s1 h => ?_)
    exact r_iret d_X7_put_69 rfl h
  · refine r_aload_n (pc' := 49) d_X7_put_48 rfl rfl rfl ?_
    refine r_get (v := vR 12 _) (pc' := 52) fl_X7_33 d_X7_put_49 rfl rfl (fun g => Or.inl ⟨rfl, g.2⟩) rfl ?_
    refine r_iload_n (pc' := 53) d_X7_put_52 rfl rfl rfl ?_
    refine r_iload_n (pc' := 54) d_X7_put_53 rfl rfl rfl ?_
    refine v2_i (mc := mi_X0_joinAssembly) (bc := (0, 0)) (b' := _) (pc' := 57) cw_X7_188 d_X7_put_54 rfl rfl rfl (Nat.zero_add _).symm (Nat.zero_add _).symm rfl h (fun _ _ e => t_X0_joinAssembly e) (fun x4 s3 h => ?_)
    refine r_goto (pc' := 69) d_X7_put_57 rfl ?_
    exact r_iret d_X7_put_69 rfl h
def f_X7_put (v1 : Int32) (v2 : Int32) (v3 : Int32) (σ : SS) : Option (Int32 × SS) := cal (f_X0_has v1 σ) (fun x2 s1 => if x2 = 0 then (some ((-1 : Int32), s1)) else (if v3 = 0 then (cal (f_X6_find v2 s1) (fun q4 s3 => Option.elim q4 (some ((-1 : Int32), s3)) (fun i5 => f_X7_put_44 v1 v2 v3 s3))) else (cal (f_X0_has v2 s1) (fun x7 s6 => if x7 = 0 then (some ((-1 : Int32), s6)) else (f_X7_put_44 v1 v2 v3 s6)))))
set_option maxRecDepth 20000 in
theorem t_X7_put {d : Nat} {b : Nat × Nat} {v1 : Int32} {v2 : Int32} {v3 : Int32} {σ : SS} {r : Int32} {σ' : SS} (h : f_X7_put v1 v2 v3 σ = some (r, σ')) : MM (d + 3) b mi_X7_put [vR 0 0, vI v1, vI v2, vI v3] σ (some (vI r), σ') := by
  refine MM.of (lv := [some (vR 0 0), some (vI v1), some (vI v2), some (vI v3)]) (by decide +kernel) rfl rfl (fun X Y => ?_)
  rw [f_X7_put] at h
  refine r_aload_n (pc' := 1) d_X7_put_0 rfl rfl rfl ?_
  refine r_get (v := vR 12 _) (pc' := 4) fl_X7_33 d_X7_put_1 rfl rfl (fun g => Or.inl ⟨rfl, g.2⟩) rfl ?_
  refine r_iload_n (pc' := 5) d_X7_put_4 rfl rfl rfl ?_
  refine v1_i (mc := mi_X0_has) (bc := (0, 0)) (b' := _) (pc' := 8) cw_X7_185 d_X7_put_5 rfl rfl rfl (Nat.zero_add _).symm (Nat.zero_add _).symm rfl h (fun _ _ e => t_X0_has e) (fun x2 s1 h => ?_)
  refine r_if_ne (pcT := 13) (pc' := 11) d_X7_put_8 rfl rfl h (fun _ h => ?_) (fun _ h => ?_)
  · refine r_iconst (pc' := 12) d_X7_put_11 ci_m1 rfl ?_
    exact r_iret d_X7_put_12 rfl h
  · refine r_iload_n (pc' := 14) d_X7_put_13 rfl rfl rfl ?_
    refine r_if_eq (pcT := 31) (pc' := 17) d_X7_put_14 rfl rfl h (fun _ h => ?_) (fun _ h => ?_)
    · refine r_aload_n (pc' := 32) d_X7_put_31 rfl rfl rfl ?_
      refine r_get (v := vR 1 _) (pc' := 35) fl_X7_10 d_X7_put_32 rfl rfl (fun g => Or.inl ⟨rfl, g.2⟩) rfl ?_
      refine r_iload_n (pc' := 36) d_X7_put_35 rfl rfl rfl ?_
      refine v1_o (t := 16) (mc := mi_X6_find) (bc := (0, 0)) (b' := _) (pc' := 39) cw_X7_79 d_X7_put_36 rfl rfl rfl (Nat.zero_add _).symm (Nat.zero_add _).symm rfl h (fun _ _ e => t_X6_find e) (fun q4 s3 h => ?_)
      refine r_ifnonnull (pcT := 44) (pc' := 42) d_X7_put_39 rfl rfl h (fun e hn => ?_) (fun i5 e hn => ?_)
      · clear h; subst e; have h := hn; clear hn
        refine r_iconst (pc' := 43) d_X7_put_42 ci_m1 rfl ?_
        exact r_iret d_X7_put_43 rfl h
      · clear h; subst e; have h := hn; clear hn
        exact WM.drop [] rfl (t_X7_put_44 h)
    · refine r_aload_n (pc' := 18) d_X7_put_17 rfl rfl rfl ?_
      refine r_get (v := vR 12 _) (pc' := 21) fl_X7_33 d_X7_put_18 rfl rfl (fun g => Or.inl ⟨rfl, g.2⟩) rfl ?_
      refine r_iload_n (pc' := 22) d_X7_put_21 rfl rfl rfl ?_
      refine v1_i (mc := mi_X0_has) (bc := (0, 0)) (b' := _) (pc' := 25) cw_X7_185 d_X7_put_22 rfl rfl rfl (Nat.zero_add _).symm (Nat.zero_add _).symm rfl h (fun _ _ e => t_X0_has e) (fun x7 s6 h => ?_)
      refine r_if_ne (pcT := 44) (pc' := 28) d_X7_put_25 rfl rfl h (fun _ h => ?_) (fun _ h => ?_)
      · refine r_goto (pc' := 42) d_X7_put_28 rfl ?_
        refine r_iconst (pc' := 43) d_X7_put_42 ci_m1 rfl ?_
        exact r_iret d_X7_put_43 rfl h
      · exact WM.drop [] rfl (t_X7_put_44 h)
/-! OctagonYard.walked(I)I -/
def mi_X7_walked : MI := (yX7_walked, cX7_walked, 2, (some .int))
theorem d_X7_walked_0 : decode mi_X7_walked.2.1 0 = .ok (.aload_n 0, 1) := by decide +kernel
theorem d_X7_walked_1 : decode mi_X7_walked.2.1 1 = .ok (.getfield 33, 3) := by decide +kernel
theorem d_X7_walked_4 : decode mi_X7_walked.2.1 4 = .ok (.iload_n 1, 1) := by decide +kernel
theorem d_X7_walked_5 : decode mi_X7_walked.2.1 5 = .ok (.invokevirtual 185, 3) := by decide +kernel
theorem d_X7_walked_8 : decode mi_X7_walked.2.1 8 = .ok (.ifCond .eq 18, 3) := by decide +kernel
theorem d_X7_walked_11 : decode mi_X7_walked.2.1 11 = .ok (.aload_n 0, 1) := by decide +kernel
theorem d_X7_walked_12 : decode mi_X7_walked.2.1 12 = .ok (.getfield 33, 3) := by decide +kernel
theorem d_X7_walked_15 : decode mi_X7_walked.2.1 15 = .ok (.getfield 194, 3) := by decide +kernel
theorem d_X7_walked_18 : decode mi_X7_walked.2.1 18 = .ok (.iload_n 1, 1) := by decide +kernel
theorem d_X7_walked_19 : decode mi_X7_walked.2.1 19 = .ok (.aaload, 1) := by decide +kernel
theorem d_X7_walked_20 : decode mi_X7_walked.2.1 20 = .ok (.getfield 198, 3) := by decide +kernel
theorem d_X7_walked_23 : decode mi_X7_walked.2.1 23 = .ok (.goto 4, 3) := by decide +kernel
theorem d_X7_walked_26 : decode mi_X7_walked.2.1 26 = .ok (.iconst (-1), 1) := by decide +kernel
theorem d_X7_walked_27 : decode mi_X7_walked.2.1 27 = .ok (.ireturn, 1) := by decide +kernel
theorem fl_X7_194 : FL RX7 194 0 5 0 := ⟨RX0, TX0, rfl, by decide, rfl, by decide +kernel, in_0⟩
theorem fl_X7_198 : FL RX7 198 1 5 3 := ⟨RX1, TX1, rfl, by decide, rfl, by decide +kernel, in_1⟩
def f_X7_walked (v1 : Int32) (σ : SS) : Option (Int32 × SS) := cal (f_X0_has v1 σ) (fun x2 s1 => if x2 = 0 then (some ((-1 : Int32), s1)) else (chk (inr v1 12) (lt_ (if ix v1 < s1.2.2 then some (ix v1) else none) (fun q3 => Option.elim q3 none (fun i4 => some ((s1.1 22 i4 3), s1))))))
set_option maxRecDepth 20000 in
theorem t_X7_walked {d : Nat} {b : Nat × Nat} {v1 : Int32} {σ : SS} {r : Int32} {σ' : SS} (h : f_X7_walked v1 σ = some (r, σ')) : MM (d + 2) b mi_X7_walked [vR 0 0, vI v1] σ (some (vI r), σ') := by
  refine MM.of (lv := [some (vR 0 0), some (vI v1)]) (by decide +kernel) rfl rfl (fun X Y => ?_)
  rw [f_X7_walked] at h
  refine r_aload_n (pc' := 1) d_X7_walked_0 rfl rfl rfl ?_
  refine r_get (v := vR 12 _) (pc' := 4) fl_X7_33 d_X7_walked_1 rfl rfl (fun g => Or.inl ⟨rfl, g.2⟩) rfl ?_
  refine r_iload_n (pc' := 5) d_X7_walked_4 rfl rfl rfl ?_
  refine v1_i (mc := mi_X0_has) (bc := (0, 0)) (b' := _) (pc' := 8) cw_X7_185 d_X7_walked_5 rfl rfl rfl (Nat.zero_add _).symm (Nat.zero_add _).symm rfl h (fun _ _ e => t_X0_has e) (fun x2 s1 h => ?_)
  refine r_if_eq (pcT := 26) (pc' := 11) d_X7_walked_8 rfl rfl h (fun _ h => ?_) (fun _ h => ?_)
  · refine r_iconst (pc' := 27) d_X7_walked_26 ci_m1 rfl ?_
    exact r_iret d_X7_walked_27 rfl h
  · refine r_aload_n (pc' := 12) d_X7_walked_11 rfl rfl rfl ?_
    refine r_get (v := vR 12 _) (pc' := 15) fl_X7_33 d_X7_walked_12 rfl rfl (fun g => Or.inl ⟨rfl, g.2⟩) rfl ?_
    refine r_get (v := vR 13 _) (pc' := 18) fl_X7_194 d_X7_walked_15 rfl rfl (fun g => Or.inl ⟨rfl, g.2⟩) rfl ?_
    refine r_iload_n (pc' := 19) d_X7_walked_18 rfl rfl rfl ?_
    refine l_rows (pc' := 20) d_X7_walked_19 rfl h (fun q3 h => ?_)
    obtain ⟨i4, e, hn⟩ := elim_s h
    clear h; subst e; have h := hn; clear hn
    refine r_get (v := vI _) (pc' := 23) fl_X7_198 d_X7_walked_20 rfl rfl (fun _ => trivial) rfl ?_
    refine r_goto (pc' := 27) d_X7_walked_23 rfl ?_
    exact r_iret d_X7_walked_27 rfl h
/-! OctagonYard.walk(II)I -/
def mi_X7_walk : MI := (yX7_walk, cX7_walk, 3, (some .int))
theorem d_X7_walk_0 : decode mi_X7_walk.2.1 0 = .ok (.aload_n 0, 1) := by decide +kernel
theorem d_X7_walk_1 : decode mi_X7_walk.2.1 1 = .ok (.getfield 33, 3) := by decide +kernel
theorem d_X7_walk_4 : decode mi_X7_walk.2.1 4 = .ok (.iload_n 1, 1) := by decide +kernel
theorem d_X7_walk_5 : decode mi_X7_walk.2.1 5 = .ok (.invokevirtual 185, 3) := by decide +kernel
theorem d_X7_walk_8 : decode mi_X7_walk.2.1 8 = .ok (.ifCond .eq 7, 3) := by decide +kernel
theorem d_X7_walk_11 : decode mi_X7_walk.2.1 11 = .ok (.iload_n 2, 1) := by decide +kernel
theorem d_X7_walk_12 : decode mi_X7_walk.2.1 12 = .ok (.ifCond .ge 5, 3) := by decide +kernel
theorem d_X7_walk_15 : decode mi_X7_walk.2.1 15 = .ok (.iconst (-1), 1) := by decide +kernel
theorem d_X7_walk_16 : decode mi_X7_walk.2.1 16 = .ok (.ireturn, 1) := by decide +kernel
theorem d_X7_walk_17 : decode mi_X7_walk.2.1 17 = .ok (.iload_n 2, 1) := by decide +kernel
theorem d_X7_walk_18 : decode mi_X7_walk.2.1 18 = .ok (.aload_n 0, 1) := by decide +kernel
theorem d_X7_walk_19 : decode mi_X7_walk.2.1 19 = .ok (.getfield 33, 3) := by decide +kernel
theorem d_X7_walk_22 : decode mi_X7_walk.2.1 22 = .ok (.getfield 194, 3) := by decide +kernel
theorem d_X7_walk_25 : decode mi_X7_walk.2.1 25 = .ok (.iload_n 1, 1) := by decide +kernel
theorem d_X7_walk_26 : decode mi_X7_walk.2.1 26 = .ok (.aaload, 1) := by decide +kernel
theorem d_X7_walk_27 : decode mi_X7_walk.2.1 27 = .ok (.getfield 198, 3) := by decide +kernel
theorem d_X7_walk_30 : decode mi_X7_walk.2.1 30 = .ok (.if_icmp .lt 6, 3) := by decide +kernel
theorem d_X7_walk_33 : decode mi_X7_walk.2.1 33 = .ok (.bipush (-4), 2) := by decide +kernel
theorem d_X7_walk_35 : decode mi_X7_walk.2.1 35 = .ok (.ireturn, 1) := by decide +kernel
theorem d_X7_walk_36 : decode mi_X7_walk.2.1 36 = .ok (.aload_n 0, 1) := by decide +kernel
theorem d_X7_walk_37 : decode mi_X7_walk.2.1 37 = .ok (.getfield 33, 3) := by decide +kernel
theorem d_X7_walk_40 : decode mi_X7_walk.2.1 40 = .ok (.iload_n 1, 1) := by decide +kernel
theorem d_X7_walk_41 : decode mi_X7_walk.2.1 41 = .ok (.invokevirtual 203, 3) := by decide +kernel
theorem d_X7_walk_44 : decode mi_X7_walk.2.1 44 = .ok (.iload_n 2, 1) := by decide +kernel
theorem d_X7_walk_45 : decode mi_X7_walk.2.1 45 = .ok (.aload_n 0, 1) := by decide +kernel
theorem d_X7_walk_46 : decode mi_X7_walk.2.1 46 = .ok (.getfield 33, 3) := by decide +kernel
theorem d_X7_walk_49 : decode mi_X7_walk.2.1 49 = .ok (.getfield 206, 3) := by decide +kernel
theorem d_X7_walk_52 : decode mi_X7_walk.2.1 52 = .ok (.if_icmp .ge 15, 3) := by decide +kernel
theorem d_X7_walk_55 : decode mi_X7_walk.2.1 55 = .ok (.aload_n 0, 1) := by decide +kernel
theorem d_X7_walk_56 : decode mi_X7_walk.2.1 56 = .ok (.getfield 33, 3) := by decide +kernel
theorem d_X7_walk_59 : decode mi_X7_walk.2.1 59 = .ok (.getfield 209, 3) := by decide +kernel
theorem d_X7_walk_62 : decode mi_X7_walk.2.1 62 = .ok (.iload_n 2, 1) := by decide +kernel
theorem d_X7_walk_63 : decode mi_X7_walk.2.1 63 = .ok (.iaload, 1) := by decide +kernel
theorem d_X7_walk_64 : decode mi_X7_walk.2.1 64 = .ok (.goto 5, 3) := by decide +kernel
theorem d_X7_walk_67 : decode mi_X7_walk.2.1 67 = .ok (.bipush (-4), 2) := by decide +kernel
theorem d_X7_walk_69 : decode mi_X7_walk.2.1 69 = .ok (.ireturn, 1) := by decide +kernel
theorem fl_X7_206 : FL RX7 206 0 5 3 := ⟨RX0, TX0, rfl, by decide, rfl, by decide +kernel, in_0⟩
theorem fl_X7_209 : FL RX7 209 0 5 2 := ⟨RX0, TX0, rfl, by decide, rfl, by decide +kernel, in_0⟩
theorem cw_X7_203 : CV RX7 203 mi_X0_gather 1 := by unfold CV; decide +kernel
def f_X7_walk (v1 : Int32) (v2 : Int32) (σ : SS) : Option (Int32 × SS) := cal (f_X0_has v1 σ) (fun x2 s1 => if x2 = 0 then (some ((-1 : Int32), s1)) else (if 0 ≤ v2 then (chk (inr v1 12) (lt_ (if ix v1 < s1.2.2 then some (ix v1) else none) (fun q3 => Option.elim q3 none (fun i4 => if v2 < (s1.1 22 i4 3) then (cal (f_X0_gather v1 s1) (fun _ s5 => if (s5.1 12 0 3) ≤ v2 then (some ((-4 : Int32), s5)) else (chk (inr v2 500) (some ((s5.1 14 0 (ix v2)), s5))))) else (some ((-4 : Int32), s1)))))) else (some ((-1 : Int32), s1))))
set_option maxRecDepth 20000 in
theorem t_X7_walk {d : Nat} {b : Nat × Nat} {v1 : Int32} {v2 : Int32} {σ : SS} {r : Int32} {σ' : SS} (h : f_X7_walk v1 v2 σ = some (r, σ')) : MM (d + 15) b mi_X7_walk [vR 0 0, vI v1, vI v2] σ (some (vI r), σ') := by
  refine MM.of (lv := [some (vR 0 0), some (vI v1), some (vI v2)]) (by decide +kernel) rfl rfl (fun X Y => ?_)
  rw [f_X7_walk] at h
  refine r_aload_n (pc' := 1) d_X7_walk_0 rfl rfl rfl ?_
  refine r_get (v := vR 12 _) (pc' := 4) fl_X7_33 d_X7_walk_1 rfl rfl (fun g => Or.inl ⟨rfl, g.2⟩) rfl ?_
  refine r_iload_n (pc' := 5) d_X7_walk_4 rfl rfl rfl ?_
  refine v1_i (mc := mi_X0_has) (bc := (0, 0)) (b' := _) (pc' := 8) cw_X7_185 d_X7_walk_5 rfl rfl rfl (Nat.zero_add _).symm (Nat.zero_add _).symm rfl h (fun _ _ e => t_X0_has e) (fun x2 s1 h => ?_)
  refine r_if_eq (pcT := 15) (pc' := 11) d_X7_walk_8 rfl rfl h (fun _ h => ?_) (fun _ h => ?_)
  · refine r_iconst (pc' := 16) d_X7_walk_15 ci_m1 rfl ?_
    exact r_iret d_X7_walk_16 rfl h
  · refine r_iload_n (pc' := 12) d_X7_walk_11 rfl rfl rfl ?_
    refine r_if_ge (pcT := 17) (pc' := 15) d_X7_walk_12 rfl rfl h (fun _ h => ?_) (fun _ h => ?_)
    · refine r_iload_n (pc' := 18) d_X7_walk_17 rfl rfl rfl ?_
      refine r_aload_n (pc' := 19) d_X7_walk_18 rfl rfl rfl ?_
      refine r_get (v := vR 12 _) (pc' := 22) fl_X7_33 d_X7_walk_19 rfl rfl (fun g => Or.inl ⟨rfl, g.2⟩) rfl ?_
      refine r_get (v := vR 13 _) (pc' := 25) fl_X7_194 d_X7_walk_22 rfl rfl (fun g => Or.inl ⟨rfl, g.2⟩) rfl ?_
      refine r_iload_n (pc' := 26) d_X7_walk_25 rfl rfl rfl ?_
      refine l_rows (pc' := 27) d_X7_walk_26 rfl h (fun q3 h => ?_)
      obtain ⟨i4, e, hn⟩ := elim_s h
      clear h; subst e; have h := hn; clear hn
      refine r_get (v := vI _) (pc' := 30) fl_X7_198 d_X7_walk_27 rfl rfl (fun _ => trivial) rfl ?_
      refine r_icmp_lt (pcT := 36) (pc' := 33) d_X7_walk_30 rfl rfl h (fun _ h => ?_) (fun _ h => ?_)
      · refine r_aload_n (pc' := 37) d_X7_walk_36 rfl rfl rfl ?_
        refine r_get (v := vR 12 _) (pc' := 40) fl_X7_33 d_X7_walk_37 rfl rfl (fun g => Or.inl ⟨rfl, g.2⟩) rfl ?_
        refine r_iload_n (pc' := 41) d_X7_walk_40 rfl rfl rfl ?_
        refine v1_v (mc := mi_X0_gather) (bc := (0, 0)) (b' := _) (pc' := 44) cw_X7_203 d_X7_walk_41 rfl rfl rfl (Nat.zero_add _).symm (Nat.zero_add _).symm rfl h (fun _ _ e => t_X0_gather e) (fun _ s5 h => ?_)
        refine r_iload_n (pc' := 45) d_X7_walk_44 rfl rfl rfl ?_
        refine r_aload_n (pc' := 46) d_X7_walk_45 rfl rfl rfl ?_
        refine r_get (v := vR 12 _) (pc' := 49) fl_X7_33 d_X7_walk_46 rfl rfl (fun g => Or.inl ⟨rfl, g.2⟩) rfl ?_
        refine r_get (v := vI _) (pc' := 52) fl_X7_206 d_X7_walk_49 rfl rfl (fun _ => trivial) rfl ?_
        refine r_icmp_ge (pcT := 67) (pc' := 55) d_X7_walk_52 rfl rfl h (fun _ h => ?_) (fun _ h => ?_)
        · refine r_bipush (pc' := 69) d_X7_walk_67 cb_m4 rfl ?_
          exact r_iret d_X7_walk_69 rfl h
        · refine r_aload_n (pc' := 56) d_X7_walk_55 rfl rfl rfl ?_
          refine r_get (v := vR 12 _) (pc' := 59) fl_X7_33 d_X7_walk_56 rfl rfl (fun g => Or.inl ⟨rfl, g.2⟩) rfl ?_
          refine r_get (v := vR 14 _) (pc' := 62) fl_X7_209 d_X7_walk_59 rfl rfl (fun g => Or.inl ⟨rfl, g.2⟩) rfl ?_
          refine r_iload_n (pc' := 63) d_X7_walk_62 rfl rfl rfl ?_
          refine r_iaload (pc' := 64) d_X7_walk_63 rfl (fun _ => rfl) rfl h (fun h => ?_)
          refine r_goto (pc' := 69) d_X7_walk_64 rfl ?_
          exact r_iret d_X7_walk_69 rfl h
      · refine r_bipush (pc' := 35) d_X7_walk_33 cb_m4 rfl ?_
        exact r_iret d_X7_walk_35 rfl h
    · refine r_iconst (pc' := 16) d_X7_walk_15 ci_m1 rfl ?_
      exact r_iret d_X7_walk_16 rfl h
/-! OctagonYard.weight(I)J -/
def mi_X7_weight : MI := (yX7_weight, cX7_weight, 6, (some .long))
theorem d_X7_weight_0 : decode mi_X7_weight.2.1 0 = .ok (.aload_n 0, 1) := by decide +kernel
theorem d_X7_weight_1 : decode mi_X7_weight.2.1 1 = .ok (.getfield 33, 3) := by decide +kernel
theorem d_X7_weight_4 : decode mi_X7_weight.2.1 4 = .ok (.iload_n 1, 1) := by decide +kernel
theorem d_X7_weight_5 : decode mi_X7_weight.2.1 5 = .ok (.invokevirtual 185, 3) := by decide +kernel
theorem d_X7_weight_8 : decode mi_X7_weight.2.1 8 = .ok (.ifCond .ne 7, 3) := by decide +kernel
theorem d_X7_weight_11 : decode mi_X7_weight.2.1 11 = .ok (.ldc2_w 139, 3) := by decide +kernel
theorem d_X7_weight_14 : decode mi_X7_weight.2.1 14 = .ok (.lreturn, 1) := by decide +kernel
theorem d_X7_weight_15 : decode mi_X7_weight.2.1 15 = .ok (.aload_n 0, 1) := by decide +kernel
theorem d_X7_weight_16 : decode mi_X7_weight.2.1 16 = .ok (.getfield 33, 3) := by decide +kernel
theorem d_X7_weight_19 : decode mi_X7_weight.2.1 19 = .ok (.iload_n 1, 1) := by decide +kernel
theorem d_X7_weight_20 : decode mi_X7_weight.2.1 20 = .ok (.invokevirtual 203, 3) := by decide +kernel
theorem d_X7_weight_23 : decode mi_X7_weight.2.1 23 = .ok (.lconst 0, 1) := by decide +kernel
theorem d_X7_weight_24 : decode mi_X7_weight.2.1 24 = .ok (.lstore_n 2, 1) := by decide +kernel
theorem d_X7_weight_25 : decode mi_X7_weight.2.1 25 = .ok (.iconst 0, 1) := by decide +kernel
theorem d_X7_weight_26 : decode mi_X7_weight.2.1 26 = .ok (.istore 4, 2) := by decide +kernel
theorem d_X7_weight_28 : decode mi_X7_weight.2.1 28 = .ok (.iload 4, 2) := by decide +kernel
theorem d_X7_weight_30 : decode mi_X7_weight.2.1 30 = .ok (.aload_n 0, 1) := by decide +kernel
theorem d_X7_weight_31 : decode mi_X7_weight.2.1 31 = .ok (.getfield 33, 3) := by decide +kernel
theorem d_X7_weight_34 : decode mi_X7_weight.2.1 34 = .ok (.getfield 206, 3) := by decide +kernel
theorem d_X7_weight_37 : decode mi_X7_weight.2.1 37 = .ok (.if_icmp .ge 41, 3) := by decide +kernel
theorem d_X7_weight_40 : decode mi_X7_weight.2.1 40 = .ok (.aload_n 0, 1) := by decide +kernel
theorem d_X7_weight_41 : decode mi_X7_weight.2.1 41 = .ok (.getfield 10, 3) := by decide +kernel
theorem d_X7_weight_44 : decode mi_X7_weight.2.1 44 = .ok (.aload_n 0, 1) := by decide +kernel
theorem d_X7_weight_45 : decode mi_X7_weight.2.1 45 = .ok (.getfield 33, 3) := by decide +kernel
theorem d_X7_weight_48 : decode mi_X7_weight.2.1 48 = .ok (.getfield 209, 3) := by decide +kernel
theorem d_X7_weight_51 : decode mi_X7_weight.2.1 51 = .ok (.iload 4, 2) := by decide +kernel
theorem d_X7_weight_53 : decode mi_X7_weight.2.1 53 = .ok (.iaload, 1) := by decide +kernel
theorem d_X7_weight_54 : decode mi_X7_weight.2.1 54 = .ok (.invokevirtual 79, 3) := by decide +kernel
theorem d_X7_weight_57 : decode mi_X7_weight.2.1 57 = .ok (.astore 5, 2) := by decide +kernel
theorem d_X7_weight_59 : decode mi_X7_weight.2.1 59 = .ok (.aload 5, 2) := by decide +kernel
theorem d_X7_weight_61 : decode mi_X7_weight.2.1 61 = .ok (.ifnull 11, 3) := by decide +kernel
theorem d_X7_weight_64 : decode mi_X7_weight.2.1 64 = .ok (.lload_n 2, 1) := by decide +kernel
theorem d_X7_weight_65 : decode mi_X7_weight.2.1 65 = .ok (.aload 5, 2) := by decide +kernel
theorem d_X7_weight_67 : decode mi_X7_weight.2.1 67 = .ok (.invokevirtual 141, 3) := by decide +kernel
theorem d_X7_weight_70 : decode mi_X7_weight.2.1 70 = .ok (.ladd, 1) := by decide +kernel
theorem d_X7_weight_71 : decode mi_X7_weight.2.1 71 = .ok (.lstore_n 2, 1) := by decide +kernel
theorem d_X7_weight_72 : decode mi_X7_weight.2.1 72 = .ok (.iinc 4 1, 3) := by decide +kernel
theorem d_X7_weight_75 : decode mi_X7_weight.2.1 75 = .ok (.goto (-47), 3) := by decide +kernel
theorem d_X7_weight_78 : decode mi_X7_weight.2.1 78 = .ok (.lload_n 2, 1) := by decide +kernel
theorem d_X7_weight_79 : decode mi_X7_weight.2.1 79 = .ok (.lreturn, 1) := by decide +kernel
def f_X7_weight_72 (K28 : Int64 → Int32 → SS → Option (Int64 × SS)) (v2 : Int64) (v4 : Int32) (σ : SS) : Option (Int64 × SS) := lt_ (v4 + (1 : Int32)) (fun x1 => K28 v2 x1 σ)
set_option maxRecDepth 20000 in
theorem t_X7_weight_72 {d : Nat} {X : MX} {Y : MY} {b : Nat × Nat} {r : Int64} {σ' : SS} {K28 : Int64 → Int32 → SS → Option (Int64 × SS)} {v2 : Int64} {v4 : Int32} (hK28 : ∀ (v2 : Int64) (v4 : Int32) (σ : SS), K28 v2 v4 σ = some (r, σ') → WM (d + 15) X Y b mi_X7_weight 28 [some (vR 0 0), none, some (vL v2), none, some (vI v4), none] [] σ (some (vL r), σ')) {σ : SS} (h : f_X7_weight_72 K28 v2 v4 σ = some (r, σ')) : WM (d + 15) X Y b mi_X7_weight 72 [some (vR 0 0), none, some (vL v2), none, some (vI v4), none] [] σ (some (vL r), σ') := by
  rw [f_X7_weight_72] at h
  refine l_iinc (pc' := 75) d_X7_weight_72 rfl ci_1 rfl rfl rfl h (fun x1 h => ?_)
  refine r_goto (pc' := 28) d_X7_weight_75 rfl ?_
  exact WM.drop [] rfl (hK28 _ _ _ h)
def f_X7_weight_28 : Nat → Int64 → Int32 → SS → Option (Int64 × SS)
  | 0, _, _, _ => none
  | n + 1, v2, v4, σ => if (σ.1 12 0 3) ≤ v4 then (some (v2, σ)) else (chk (inr v4 500) (cal (f_X6_find (σ.1 14 0 (ix v4)) σ) (fun q2 s1 => Option.elim q2 (f_X7_weight_72 (f_X7_weight_28 n) v2 v4 s1) (fun i3 => cal (f_X4_bulk i3 s1) (fun x5 s4 => lt_ (v2 + x5) (fun x6 => f_X7_weight_72 (f_X7_weight_28 n) x6 v4 s4))))))
set_option maxRecDepth 20000 in
theorem t_X7_weight_28 {d : Nat} {X : MX} {Y : MY} {b : Nat × Nat} {r : Int64} {σ' : SS} : ∀ (n : Nat) (v2 : Int64) (v4 : Int32) (σ : SS), f_X7_weight_28 n v2 v4 σ = some (r, σ') → WM (d + 15) X Y b mi_X7_weight 28 [some (vR 0 0), none, some (vL v2), none, some (vI v4), none] [] σ (some (vL r), σ') := by
  intro n
  induction n with
  | zero => intro _ _ σ h; cases h
  | succ n ih =>
    intro v2 v4 σ h
    rw [f_X7_weight_28] at h
    refine r_iload (pc' := 30) d_X7_weight_28 rfl rfl ?_
    refine r_aload_n (pc' := 31) d_X7_weight_30 rfl rfl rfl ?_
    refine r_get (v := vR 12 _) (pc' := 34) fl_X7_33 d_X7_weight_31 rfl rfl (fun g => Or.inl ⟨rfl, g.2⟩) rfl ?_
    refine r_get (v := vI _) (pc' := 37) fl_X7_206 d_X7_weight_34 rfl rfl (fun _ => trivial) rfl ?_
    refine r_icmp_ge (pcT := 78) (pc' := 40) d_X7_weight_37 rfl rfl h (fun _ h => ?_) (fun _ h => ?_)
    · refine r_lload_n (pc' := 79) d_X7_weight_78 rfl rfl rfl ?_
      exact r_lret d_X7_weight_79 rfl h
    · refine r_aload_n (pc' := 41) d_X7_weight_40 rfl rfl rfl ?_
      refine r_get (v := vR 1 _) (pc' := 44) fl_X7_10 d_X7_weight_41 rfl rfl (fun g => Or.inl ⟨rfl, g.2⟩) rfl ?_
      refine r_aload_n (pc' := 45) d_X7_weight_44 rfl rfl rfl ?_
      refine r_get (v := vR 12 _) (pc' := 48) fl_X7_33 d_X7_weight_45 rfl rfl (fun g => Or.inl ⟨rfl, g.2⟩) rfl ?_
      refine r_get (v := vR 14 _) (pc' := 51) fl_X7_209 d_X7_weight_48 rfl rfl (fun g => Or.inl ⟨rfl, g.2⟩) rfl ?_
      refine r_iload (pc' := 53) d_X7_weight_51 rfl rfl ?_
      refine r_iaload (pc' := 54) d_X7_weight_53 rfl (fun _ => rfl) rfl h (fun h => ?_)
      refine v1_o (t := 16) (mc := mi_X6_find) (bc := (0, 0)) (b' := _) (pc' := 57) cw_X7_79 d_X7_weight_54 rfl rfl rfl (Nat.zero_add _).symm (Nat.zero_add _).symm rfl h (fun _ _ e => t_X6_find e) (fun q2 s1 h => ?_)
      refine r_astore (pc' := 59) d_X7_weight_57 rfl rfl rfl ?_
      refine r_aload (pc' := 61) d_X7_weight_59 rfl rfl ?_
      refine r_ifnull (pcT := 72) (pc' := 64) d_X7_weight_61 rfl rfl h (fun e hn => ?_) (fun i3 e hn => ?_)
      · clear h; subst e; have h := hn; clear hn
        exact WM.drop [5] rfl (t_X7_weight_72 ih h)
      · clear h; subst e; have h := hn; clear hn
        refine r_lload_n (pc' := 65) d_X7_weight_64 rfl rfl rfl ?_
        refine r_aload (pc' := 67) d_X7_weight_65 rfl rfl ?_
        refine v0_l (mc := mi_X4_bulk) (bc := (0, 0)) (b' := _) (pc' := 70) cw_X7_141 d_X7_weight_67 rfl rfl rfl (Nat.zero_add _).symm (Nat.zero_add _).symm rfl h (fun _ _ e => t_X4_bulk e) (fun x5 s4 h => ?_)
        refine r_ladd (pc' := 71) d_X7_weight_70 rfl ?_
        refine l_lstore_n (pc' := 72) d_X7_weight_71 rfl rfl rfl rfl h (fun x6 h => ?_)
        exact WM.drop [5] rfl (t_X7_weight_72 ih h)
def f_X7_weight (v1 : Int32) (σ : SS) : Option (Int64 × SS) := cal (f_X0_has v1 σ) (fun x2 s1 => if x2 = 0 then (some ((-1 : Int64), s1)) else (cal (f_X0_gather v1 s1) (fun _ s3 => f_X7_weight_28 FU (0 : Int64) (0 : Int32) s3)))
set_option maxRecDepth 20000 in
theorem t_X7_weight {d : Nat} {b : Nat × Nat} {v1 : Int32} {σ : SS} {r : Int64} {σ' : SS} (h : f_X7_weight v1 σ = some (r, σ')) : MM (d + 15) b mi_X7_weight [vR 0 0, vI v1] σ (some (vL r), σ') := by
  refine MM.of (lv := [some (vR 0 0), some (vI v1), none, none, none, none]) (by decide +kernel) rfl rfl (fun X Y => ?_)
  rw [f_X7_weight] at h
  refine r_aload_n (pc' := 1) d_X7_weight_0 rfl rfl rfl ?_
  refine r_get (v := vR 12 _) (pc' := 4) fl_X7_33 d_X7_weight_1 rfl rfl (fun g => Or.inl ⟨rfl, g.2⟩) rfl ?_
  refine r_iload_n (pc' := 5) d_X7_weight_4 rfl rfl rfl ?_
  refine v1_i (mc := mi_X0_has) (bc := (0, 0)) (b' := _) (pc' := 8) cw_X7_185 d_X7_weight_5 rfl rfl rfl (Nat.zero_add _).symm (Nat.zero_add _).symm rfl h (fun _ _ e => t_X0_has e) (fun x2 s1 h => ?_)
  refine r_if_ne (pcT := 15) (pc' := 11) d_X7_weight_8 rfl rfl h (fun _ h => ?_) (fun _ h => ?_)
  · refine r_ldc2 (pc' := 14) k_X7_139 d_X7_weight_11 rfl ?_
    exact r_lret d_X7_weight_14 rfl h
  · refine r_aload_n (pc' := 16) d_X7_weight_15 rfl rfl rfl ?_
    refine r_get (v := vR 12 _) (pc' := 19) fl_X7_33 d_X7_weight_16 rfl rfl (fun g => Or.inl ⟨rfl, g.2⟩) rfl ?_
    refine r_iload_n (pc' := 20) d_X7_weight_19 rfl rfl rfl ?_
    refine v1_v (mc := mi_X0_gather) (bc := (0, 0)) (b' := _) (pc' := 23) cw_X7_203 d_X7_weight_20 rfl rfl rfl (Nat.zero_add _).symm (Nat.zero_add _).symm rfl h (fun _ _ e => t_X0_gather e) (fun _ s3 h => ?_)
    refine r_lconst (pc' := 24) (x := 0) d_X7_weight_23 rfl rfl ?_
    refine r_lstore_n (pc' := 25) d_X7_weight_24 rfl rfl rfl rfl ?_
    refine r_iconst (pc' := 26) d_X7_weight_25 ci_0 rfl ?_
    refine r_istore (pc' := 28) d_X7_weight_26 rfl rfl rfl ?_
    exact WM.drop [1] rfl (t_X7_weight_28 _ _ _ _ h)
/-! OctagonYard.price(I)I -/
def mi_X7_price : MI := (yX7_price, cX7_price, 5, (some .int))
theorem d_X7_price_0 : decode mi_X7_price.2.1 0 = .ok (.aload_n 0, 1) := by decide +kernel
theorem d_X7_price_1 : decode mi_X7_price.2.1 1 = .ok (.getfield 33, 3) := by decide +kernel
theorem d_X7_price_4 : decode mi_X7_price.2.1 4 = .ok (.iload_n 1, 1) := by decide +kernel
theorem d_X7_price_5 : decode mi_X7_price.2.1 5 = .ok (.invokevirtual 185, 3) := by decide +kernel
theorem d_X7_price_8 : decode mi_X7_price.2.1 8 = .ok (.ifCond .ne 5, 3) := by decide +kernel
theorem d_X7_price_11 : decode mi_X7_price.2.1 11 = .ok (.iconst (-1), 1) := by decide +kernel
theorem d_X7_price_12 : decode mi_X7_price.2.1 12 = .ok (.ireturn, 1) := by decide +kernel
theorem d_X7_price_13 : decode mi_X7_price.2.1 13 = .ok (.aload_n 0, 1) := by decide +kernel
theorem d_X7_price_14 : decode mi_X7_price.2.1 14 = .ok (.getfield 33, 3) := by decide +kernel
theorem d_X7_price_17 : decode mi_X7_price.2.1 17 = .ok (.iload_n 1, 1) := by decide +kernel
theorem d_X7_price_18 : decode mi_X7_price.2.1 18 = .ok (.invokevirtual 203, 3) := by decide +kernel
theorem d_X7_price_21 : decode mi_X7_price.2.1 21 = .ok (.iconst 0, 1) := by decide +kernel
theorem d_X7_price_22 : decode mi_X7_price.2.1 22 = .ok (.istore_n 2, 1) := by decide +kernel
theorem d_X7_price_23 : decode mi_X7_price.2.1 23 = .ok (.iconst 0, 1) := by decide +kernel
theorem d_X7_price_24 : decode mi_X7_price.2.1 24 = .ok (.istore_n 3, 1) := by decide +kernel
theorem d_X7_price_25 : decode mi_X7_price.2.1 25 = .ok (.iload_n 3, 1) := by decide +kernel
theorem d_X7_price_26 : decode mi_X7_price.2.1 26 = .ok (.aload_n 0, 1) := by decide +kernel
theorem d_X7_price_27 : decode mi_X7_price.2.1 27 = .ok (.getfield 33, 3) := by decide +kernel
theorem d_X7_price_30 : decode mi_X7_price.2.1 30 = .ok (.getfield 206, 3) := by decide +kernel
theorem d_X7_price_33 : decode mi_X7_price.2.1 33 = .ok (.if_icmp .ge 40, 3) := by decide +kernel
theorem d_X7_price_36 : decode mi_X7_price.2.1 36 = .ok (.aload_n 0, 1) := by decide +kernel
theorem d_X7_price_37 : decode mi_X7_price.2.1 37 = .ok (.getfield 10, 3) := by decide +kernel
theorem d_X7_price_40 : decode mi_X7_price.2.1 40 = .ok (.aload_n 0, 1) := by decide +kernel
theorem d_X7_price_41 : decode mi_X7_price.2.1 41 = .ok (.getfield 33, 3) := by decide +kernel
theorem d_X7_price_44 : decode mi_X7_price.2.1 44 = .ok (.getfield 209, 3) := by decide +kernel
theorem d_X7_price_47 : decode mi_X7_price.2.1 47 = .ok (.iload_n 3, 1) := by decide +kernel
theorem d_X7_price_48 : decode mi_X7_price.2.1 48 = .ok (.iaload, 1) := by decide +kernel
theorem d_X7_price_49 : decode mi_X7_price.2.1 49 = .ok (.invokevirtual 79, 3) := by decide +kernel
theorem d_X7_price_52 : decode mi_X7_price.2.1 52 = .ok (.astore 4, 2) := by decide +kernel
theorem d_X7_price_54 : decode mi_X7_price.2.1 54 = .ok (.aload 4, 2) := by decide +kernel
theorem d_X7_price_56 : decode mi_X7_price.2.1 56 = .ok (.ifnull 11, 3) := by decide +kernel
theorem d_X7_price_59 : decode mi_X7_price.2.1 59 = .ok (.iload_n 2, 1) := by decide +kernel
theorem d_X7_price_60 : decode mi_X7_price.2.1 60 = .ok (.aload 4, 2) := by decide +kernel
theorem d_X7_price_62 : decode mi_X7_price.2.1 62 = .ok (.invokevirtual 212, 3) := by decide +kernel
theorem d_X7_price_65 : decode mi_X7_price.2.1 65 = .ok (.iadd, 1) := by decide +kernel
theorem d_X7_price_66 : decode mi_X7_price.2.1 66 = .ok (.istore_n 2, 1) := by decide +kernel
theorem d_X7_price_67 : decode mi_X7_price.2.1 67 = .ok (.iinc 3 1, 3) := by decide +kernel
theorem d_X7_price_70 : decode mi_X7_price.2.1 70 = .ok (.goto (-45), 3) := by decide +kernel
theorem d_X7_price_73 : decode mi_X7_price.2.1 73 = .ok (.iload_n 2, 1) := by decide +kernel
theorem d_X7_price_74 : decode mi_X7_price.2.1 74 = .ok (.ireturn, 1) := by decide +kernel
theorem cw_X7_212 : CV RX7 212 mi_X4_cost 0 := by unfold CV; decide +kernel
def f_X7_price_67 (K25 : Int32 → Int32 → SS → Option (Int32 × SS)) (v2 : Int32) (v3 : Int32) (σ : SS) : Option (Int32 × SS) := lt_ (v3 + (1 : Int32)) (fun x1 => K25 v2 x1 σ)
set_option maxRecDepth 20000 in
theorem t_X7_price_67 {d : Nat} {X : MX} {Y : MY} {b : Nat × Nat} {r : Int32} {σ' : SS} {K25 : Int32 → Int32 → SS → Option (Int32 × SS)} {v2 : Int32} {v3 : Int32} (hK25 : ∀ (v2 : Int32) (v3 : Int32) (σ : SS), K25 v2 v3 σ = some (r, σ') → WM (d + 15) X Y b mi_X7_price 25 [some (vR 0 0), none, some (vI v2), some (vI v3), none] [] σ (some (vI r), σ')) {σ : SS} (h : f_X7_price_67 K25 v2 v3 σ = some (r, σ')) : WM (d + 15) X Y b mi_X7_price 67 [some (vR 0 0), none, some (vI v2), some (vI v3), none] [] σ (some (vI r), σ') := by
  rw [f_X7_price_67] at h
  refine l_iinc (pc' := 70) d_X7_price_67 rfl ci_1 rfl rfl rfl h (fun x1 h => ?_)
  refine r_goto (pc' := 25) d_X7_price_70 rfl ?_
  exact WM.drop [] rfl (hK25 _ _ _ h)
def f_X7_price_25 : Nat → Int32 → Int32 → SS → Option (Int32 × SS)
  | 0, _, _, _ => none
  | n + 1, v2, v3, σ => if (σ.1 12 0 3) ≤ v3 then (some (v2, σ)) else (chk (inr v3 500) (cal (f_X6_find (σ.1 14 0 (ix v3)) σ) (fun q2 s1 => Option.elim q2 (f_X7_price_67 (f_X7_price_25 n) v2 v3 s1) (fun i3 => cal (f_X4_cost i3 s1) (fun x5 s4 => lt_ (v2 + x5) (fun x6 => f_X7_price_67 (f_X7_price_25 n) x6 v3 s4))))))
set_option maxRecDepth 20000 in
theorem t_X7_price_25 {d : Nat} {X : MX} {Y : MY} {b : Nat × Nat} {r : Int32} {σ' : SS} : ∀ (n : Nat) (v2 : Int32) (v3 : Int32) (σ : SS), f_X7_price_25 n v2 v3 σ = some (r, σ') → WM (d + 15) X Y b mi_X7_price 25 [some (vR 0 0), none, some (vI v2), some (vI v3), none] [] σ (some (vI r), σ') := by
  intro n
  induction n with
  | zero => intro _ _ σ h; cases h
  | succ n ih =>
    intro v2 v3 σ h
    rw [f_X7_price_25] at h
    refine r_iload_n (pc' := 26) d_X7_price_25 rfl rfl rfl ?_
    refine r_aload_n (pc' := 27) d_X7_price_26 rfl rfl rfl ?_
    refine r_get (v := vR 12 _) (pc' := 30) fl_X7_33 d_X7_price_27 rfl rfl (fun g => Or.inl ⟨rfl, g.2⟩) rfl ?_
    refine r_get (v := vI _) (pc' := 33) fl_X7_206 d_X7_price_30 rfl rfl (fun _ => trivial) rfl ?_
    refine r_icmp_ge (pcT := 73) (pc' := 36) d_X7_price_33 rfl rfl h (fun _ h => ?_) (fun _ h => ?_)
    · refine r_iload_n (pc' := 74) d_X7_price_73 rfl rfl rfl ?_
      exact r_iret d_X7_price_74 rfl h
    · refine r_aload_n (pc' := 37) d_X7_price_36 rfl rfl rfl ?_
      refine r_get (v := vR 1 _) (pc' := 40) fl_X7_10 d_X7_price_37 rfl rfl (fun g => Or.inl ⟨rfl, g.2⟩) rfl ?_
      refine r_aload_n (pc' := 41) d_X7_price_40 rfl rfl rfl ?_
      refine r_get (v := vR 12 _) (pc' := 44) fl_X7_33 d_X7_price_41 rfl rfl (fun g => Or.inl ⟨rfl, g.2⟩) rfl ?_
      refine r_get (v := vR 14 _) (pc' := 47) fl_X7_209 d_X7_price_44 rfl rfl (fun g => Or.inl ⟨rfl, g.2⟩) rfl ?_
      refine r_iload_n (pc' := 48) d_X7_price_47 rfl rfl rfl ?_
      refine r_iaload (pc' := 49) d_X7_price_48 rfl (fun _ => rfl) rfl h (fun h => ?_)
      refine v1_o (t := 16) (mc := mi_X6_find) (bc := (0, 0)) (b' := _) (pc' := 52) cw_X7_79 d_X7_price_49 rfl rfl rfl (Nat.zero_add _).symm (Nat.zero_add _).symm rfl h (fun _ _ e => t_X6_find e) (fun q2 s1 h => ?_)
      refine r_astore (pc' := 54) d_X7_price_52 rfl rfl rfl ?_
      refine r_aload (pc' := 56) d_X7_price_54 rfl rfl ?_
      refine r_ifnull (pcT := 67) (pc' := 59) d_X7_price_56 rfl rfl h (fun e hn => ?_) (fun i3 e hn => ?_)
      · clear h; subst e; have h := hn; clear hn
        exact WM.drop [4] rfl (t_X7_price_67 ih h)
      · clear h; subst e; have h := hn; clear hn
        refine r_iload_n (pc' := 60) d_X7_price_59 rfl rfl rfl ?_
        refine r_aload (pc' := 62) d_X7_price_60 rfl rfl ?_
        refine v0_i (mc := mi_X4_cost) (bc := (0, 0)) (b' := _) (pc' := 65) cw_X7_212 d_X7_price_62 rfl rfl rfl (Nat.zero_add _).symm (Nat.zero_add _).symm rfl h (fun _ _ e => t_X4_cost e) (fun x5 s4 h => ?_)
        refine r_iadd (pc' := 66) d_X7_price_65 rfl ?_
        refine l_istore_n (pc' := 67) d_X7_price_66 rfl rfl rfl rfl h (fun x6 h => ?_)
        exact WM.drop [4] rfl (t_X7_price_67 ih h)
def f_X7_price (v1 : Int32) (σ : SS) : Option (Int32 × SS) := cal (f_X0_has v1 σ) (fun x2 s1 => if x2 = 0 then (some ((-1 : Int32), s1)) else (cal (f_X0_gather v1 s1) (fun _ s3 => f_X7_price_25 FU (0 : Int32) (0 : Int32) s3)))
set_option maxRecDepth 20000 in
theorem t_X7_price {d : Nat} {b : Nat × Nat} {v1 : Int32} {σ : SS} {r : Int32} {σ' : SS} (h : f_X7_price v1 σ = some (r, σ')) : MM (d + 15) b mi_X7_price [vR 0 0, vI v1] σ (some (vI r), σ') := by
  refine MM.of (lv := [some (vR 0 0), some (vI v1), none, none, none]) (by decide +kernel) rfl rfl (fun X Y => ?_)
  rw [f_X7_price] at h
  refine r_aload_n (pc' := 1) d_X7_price_0 rfl rfl rfl ?_
  refine r_get (v := vR 12 _) (pc' := 4) fl_X7_33 d_X7_price_1 rfl rfl (fun g => Or.inl ⟨rfl, g.2⟩) rfl ?_
  refine r_iload_n (pc' := 5) d_X7_price_4 rfl rfl rfl ?_
  refine v1_i (mc := mi_X0_has) (bc := (0, 0)) (b' := _) (pc' := 8) cw_X7_185 d_X7_price_5 rfl rfl rfl (Nat.zero_add _).symm (Nat.zero_add _).symm rfl h (fun _ _ e => t_X0_has e) (fun x2 s1 h => ?_)
  refine r_if_ne (pcT := 13) (pc' := 11) d_X7_price_8 rfl rfl h (fun _ h => ?_) (fun _ h => ?_)
  · refine r_iconst (pc' := 12) d_X7_price_11 ci_m1 rfl ?_
    exact r_iret d_X7_price_12 rfl h
  · refine r_aload_n (pc' := 14) d_X7_price_13 rfl rfl rfl ?_
    refine r_get (v := vR 12 _) (pc' := 17) fl_X7_33 d_X7_price_14 rfl rfl (fun g => Or.inl ⟨rfl, g.2⟩) rfl ?_
    refine r_iload_n (pc' := 18) d_X7_price_17 rfl rfl rfl ?_
    refine v1_v (mc := mi_X0_gather) (bc := (0, 0)) (b' := _) (pc' := 21) cw_X7_203 d_X7_price_18 rfl rfl rfl (Nat.zero_add _).symm (Nat.zero_add _).symm rfl h (fun _ _ e => t_X0_gather e) (fun _ s3 h => ?_)
    refine r_iconst (pc' := 22) d_X7_price_21 ci_0 rfl ?_
    refine r_istore_n (pc' := 23) d_X7_price_22 rfl rfl rfl rfl ?_
    refine r_iconst (pc' := 24) d_X7_price_23 ci_0 rfl ?_
    refine r_istore_n (pc' := 25) d_X7_price_24 rfl rfl rfl rfl ?_
    exact WM.drop [1] rfl (t_X7_price_25 _ _ _ _ h)
/-! OctagonYard.check(I)I -/
def mi_X7_check : MI := (yX7_check, cX7_check, 8, (some .int))
theorem d_X7_check_0 : decode mi_X7_check.2.1 0 = .ok (.aload_n 0, 1) := by decide +kernel
theorem d_X7_check_1 : decode mi_X7_check.2.1 1 = .ok (.getfield 33, 3) := by decide +kernel
theorem d_X7_check_4 : decode mi_X7_check.2.1 4 = .ok (.iload_n 1, 1) := by decide +kernel
theorem d_X7_check_5 : decode mi_X7_check.2.1 5 = .ok (.invokevirtual 185, 3) := by decide +kernel
theorem d_X7_check_8 : decode mi_X7_check.2.1 8 = .ok (.ifCond .ne 5, 3) := by decide +kernel
theorem d_X7_check_11 : decode mi_X7_check.2.1 11 = .ok (.iconst (-1), 1) := by decide +kernel
theorem d_X7_check_12 : decode mi_X7_check.2.1 12 = .ok (.ireturn, 1) := by decide +kernel
theorem d_X7_check_13 : decode mi_X7_check.2.1 13 = .ok (.aload_n 0, 1) := by decide +kernel
theorem d_X7_check_14 : decode mi_X7_check.2.1 14 = .ok (.getfield 33, 3) := by decide +kernel
theorem d_X7_check_17 : decode mi_X7_check.2.1 17 = .ok (.iload_n 1, 1) := by decide +kernel
theorem d_X7_check_18 : decode mi_X7_check.2.1 18 = .ok (.invokevirtual 203, 3) := by decide +kernel
theorem d_X7_check_21 : decode mi_X7_check.2.1 21 = .ok (.aload_n 0, 1) := by decide +kernel
theorem d_X7_check_22 : decode mi_X7_check.2.1 22 = .ok (.getfield 33, 3) := by decide +kernel
theorem d_X7_check_25 : decode mi_X7_check.2.1 25 = .ok (.invokevirtual 215, 3) := by decide +kernel
theorem d_X7_check_28 : decode mi_X7_check.2.1 28 = .ok (.lstore_n 2, 1) := by decide +kernel
theorem d_X7_check_29 : decode mi_X7_check.2.1 29 = .ok (.lconst 0, 1) := by decide +kernel
theorem d_X7_check_30 : decode mi_X7_check.2.1 30 = .ok (.lstore 4, 2) := by decide +kernel
theorem d_X7_check_32 : decode mi_X7_check.2.1 32 = .ok (.iconst 0, 1) := by decide +kernel
theorem d_X7_check_33 : decode mi_X7_check.2.1 33 = .ok (.istore 6, 2) := by decide +kernel
theorem d_X7_check_35 : decode mi_X7_check.2.1 35 = .ok (.iload 6, 2) := by decide +kernel
theorem d_X7_check_37 : decode mi_X7_check.2.1 37 = .ok (.aload_n 0, 1) := by decide +kernel
theorem d_X7_check_38 : decode mi_X7_check.2.1 38 = .ok (.getfield 33, 3) := by decide +kernel
theorem d_X7_check_41 : decode mi_X7_check.2.1 41 = .ok (.getfield 206, 3) := by decide +kernel
theorem d_X7_check_44 : decode mi_X7_check.2.1 44 = .ok (.if_icmp .ge 58, 3) := by decide +kernel
theorem d_X7_check_47 : decode mi_X7_check.2.1 47 = .ok (.aload_n 0, 1) := by decide +kernel
theorem d_X7_check_48 : decode mi_X7_check.2.1 48 = .ok (.getfield 33, 3) := by decide +kernel
theorem d_X7_check_51 : decode mi_X7_check.2.1 51 = .ok (.getfield 209, 3) := by decide +kernel
theorem d_X7_check_54 : decode mi_X7_check.2.1 54 = .ok (.iload 6, 2) := by decide +kernel
theorem d_X7_check_56 : decode mi_X7_check.2.1 56 = .ok (.iaload, 1) := by decide +kernel
theorem d_X7_check_57 : decode mi_X7_check.2.1 57 = .ok (.istore 7, 2) := by decide +kernel
theorem d_X7_check_59 : decode mi_X7_check.2.1 59 = .ok (.lload 4, 2) := by decide +kernel
theorem d_X7_check_61 : decode mi_X7_check.2.1 61 = .ok (.iload 7, 2) := by decide +kernel
theorem d_X7_check_63 : decode mi_X7_check.2.1 63 = .ok (.lshr, 1) := by decide +kernel
theorem d_X7_check_64 : decode mi_X7_check.2.1 64 = .ok (.lconst 1, 1) := by decide +kernel
theorem d_X7_check_65 : decode mi_X7_check.2.1 65 = .ok (.land, 1) := by decide +kernel
theorem d_X7_check_66 : decode mi_X7_check.2.1 66 = .ok (.lconst 0, 1) := by decide +kernel
theorem d_X7_check_67 : decode mi_X7_check.2.1 67 = .ok (.lcmp, 1) := by decide +kernel
theorem d_X7_check_68 : decode mi_X7_check.2.1 68 = .ok (.ifCond .ne 28, 3) := by decide +kernel
theorem d_X7_check_71 : decode mi_X7_check.2.1 71 = .ok (.aload_n 0, 1) := by decide +kernel
theorem d_X7_check_72 : decode mi_X7_check.2.1 72 = .ok (.getfield 10, 3) := by decide +kernel
theorem d_X7_check_75 : decode mi_X7_check.2.1 75 = .ok (.iload 7, 2) := by decide +kernel
theorem d_X7_check_77 : decode mi_X7_check.2.1 77 = .ok (.lload_n 2, 1) := by decide +kernel
theorem d_X7_check_78 : decode mi_X7_check.2.1 78 = .ok (.invokevirtual 218, 3) := by decide +kernel
theorem d_X7_check_81 : decode mi_X7_check.2.1 81 = .ok (.ifCond .ne 6, 3) := by decide +kernel
theorem d_X7_check_84 : decode mi_X7_check.2.1 84 = .ok (.iload 7, 2) := by decide +kernel
theorem d_X7_check_86 : decode mi_X7_check.2.1 86 = .ok (.ireturn, 1) := by decide +kernel
theorem d_X7_check_87 : decode mi_X7_check.2.1 87 = .ok (.lload 4, 2) := by decide +kernel
theorem d_X7_check_89 : decode mi_X7_check.2.1 89 = .ok (.lconst 1, 1) := by decide +kernel
theorem d_X7_check_90 : decode mi_X7_check.2.1 90 = .ok (.iload 7, 2) := by decide +kernel
theorem d_X7_check_92 : decode mi_X7_check.2.1 92 = .ok (.lshl, 1) := by decide +kernel
theorem d_X7_check_93 : decode mi_X7_check.2.1 93 = .ok (.lor, 1) := by decide +kernel
theorem d_X7_check_94 : decode mi_X7_check.2.1 94 = .ok (.lstore 4, 2) := by decide +kernel
theorem d_X7_check_96 : decode mi_X7_check.2.1 96 = .ok (.iinc 6 1, 3) := by decide +kernel
theorem d_X7_check_99 : decode mi_X7_check.2.1 99 = .ok (.goto (-64), 3) := by decide +kernel
theorem d_X7_check_102 : decode mi_X7_check.2.1 102 = .ok (.bipush (-4), 2) := by decide +kernel
theorem d_X7_check_104 : decode mi_X7_check.2.1 104 = .ok (.ireturn, 1) := by decide +kernel
theorem cw_X7_215 : CV RX7 215 mi_X0_gathered 0 := by unfold CV; decide +kernel
theorem cw_X7_218 : CV RX7 218 mi_X6_rests 2 := by unfold CV; decide +kernel
def f_X7_check_96 (K35 : Int64 → Int64 → Int32 → SS → Option (Int32 × SS)) (v2 : Int64) (v4 : Int64) (v6 : Int32) (σ : SS) : Option (Int32 × SS) := lt_ (v6 + (1 : Int32)) (fun x1 => K35 v2 v4 x1 σ)
set_option maxRecDepth 20000 in
theorem t_X7_check_96 {d : Nat} {X : MX} {Y : MY} {b : Nat × Nat} {r : Int32} {σ' : SS} {K35 : Int64 → Int64 → Int32 → SS → Option (Int32 × SS)} {v2 : Int64} {v4 : Int64} {v6 : Int32} (hK35 : ∀ (v2 : Int64) (v4 : Int64) (v6 : Int32) (σ : SS), K35 v2 v4 v6 σ = some (r, σ') → WM (d + 15) X Y b mi_X7_check 35 [some (vR 0 0), none, some (vL v2), none, some (vL v4), none, some (vI v6), none] [] σ (some (vI r), σ')) {σ : SS} (h : f_X7_check_96 K35 v2 v4 v6 σ = some (r, σ')) : WM (d + 15) X Y b mi_X7_check 96 [some (vR 0 0), none, some (vL v2), none, some (vL v4), none, some (vI v6), none] [] σ (some (vI r), σ') := by
  rw [f_X7_check_96] at h
  refine l_iinc (pc' := 99) d_X7_check_96 rfl ci_1 rfl rfl rfl h (fun x1 h => ?_)
  refine r_goto (pc' := 35) d_X7_check_99 rfl ?_
  exact WM.drop [] rfl (hK35 _ _ _ _ h)
def f_X7_check_35 : Nat → Int64 → Int64 → Int32 → SS → Option (Int32 × SS)
  | 0, _, _, _, _ => none
  | n + 1, v2, v4, v6, σ => if (σ.1 12 0 3) ≤ v6 then (some ((-4 : Int32), σ)) else (chk (inr v6 500) (lt_ (σ.1 14 0 (ix v6)) (fun x1 => if (lg_cmp ((v4 >>> ((x1).toInt64 &&& 63)) &&& (1 : Int64)) (0 : Int64)) = 0 then (cal (f_X6_rests x1 v2 σ) (fun x3 s2 => if x3 = 0 then (some (x1, s2)) else (lt_ (v4 ||| ((1 : Int64) <<< ((x1).toInt64 &&& 63))) (fun x4 => f_X7_check_96 (f_X7_check_35 n) v2 x4 v6 s2)))) else (f_X7_check_96 (f_X7_check_35 n) v2 v4 v6 σ))))
set_option maxRecDepth 20000 in
theorem t_X7_check_35 {d : Nat} {X : MX} {Y : MY} {b : Nat × Nat} {r : Int32} {σ' : SS} : ∀ (n : Nat) (v2 : Int64) (v4 : Int64) (v6 : Int32) (σ : SS), f_X7_check_35 n v2 v4 v6 σ = some (r, σ') → WM (d + 15) X Y b mi_X7_check 35 [some (vR 0 0), none, some (vL v2), none, some (vL v4), none, some (vI v6), none] [] σ (some (vI r), σ') := by
  intro n
  induction n with
  | zero => intro _ _ _ σ h; cases h
  | succ n ih =>
    intro v2 v4 v6 σ h
    rw [f_X7_check_35] at h
    refine r_iload (pc' := 37) d_X7_check_35 rfl rfl ?_
    refine r_aload_n (pc' := 38) d_X7_check_37 rfl rfl rfl ?_
    refine r_get (v := vR 12 _) (pc' := 41) fl_X7_33 d_X7_check_38 rfl rfl (fun g => Or.inl ⟨rfl, g.2⟩) rfl ?_
    refine r_get (v := vI _) (pc' := 44) fl_X7_206 d_X7_check_41 rfl rfl (fun _ => trivial) rfl ?_
    refine r_icmp_ge (pcT := 102) (pc' := 47) d_X7_check_44 rfl rfl h (fun _ h => ?_) (fun _ h => ?_)
    · refine r_bipush (pc' := 104) d_X7_check_102 cb_m4 rfl ?_
      exact r_iret d_X7_check_104 rfl h
    · refine r_aload_n (pc' := 48) d_X7_check_47 rfl rfl rfl ?_
      refine r_get (v := vR 12 _) (pc' := 51) fl_X7_33 d_X7_check_48 rfl rfl (fun g => Or.inl ⟨rfl, g.2⟩) rfl ?_
      refine r_get (v := vR 14 _) (pc' := 54) fl_X7_209 d_X7_check_51 rfl rfl (fun g => Or.inl ⟨rfl, g.2⟩) rfl ?_
      refine r_iload (pc' := 56) d_X7_check_54 rfl rfl ?_
      refine r_iaload (pc' := 57) d_X7_check_56 rfl (fun _ => rfl) rfl h (fun h => ?_)
      refine l_istore (pc' := 59) d_X7_check_57 rfl rfl rfl h (fun x1 h => ?_)
      refine r_lload (pc' := 61) d_X7_check_59 rfl rfl ?_
      refine r_iload (pc' := 63) d_X7_check_61 rfl rfl ?_
      refine r_lshr (pc' := 64) d_X7_check_63 rfl ?_
      refine r_lconst (pc' := 65) (x := 1) d_X7_check_64 rfl rfl ?_
      refine r_land (pc' := 66) d_X7_check_65 rfl ?_
      refine r_lconst (pc' := 67) (x := 0) d_X7_check_66 rfl rfl ?_
      refine r_lcmp (pc' := 68) d_X7_check_67 rfl ?_
      refine r_if_ne (pcT := 96) (pc' := 71) d_X7_check_68 rfl rfl h (fun _ h => ?_) (fun _ h => ?_)
      · refine r_aload_n (pc' := 72) d_X7_check_71 rfl rfl rfl ?_
        refine r_get (v := vR 1 _) (pc' := 75) fl_X7_10 d_X7_check_72 rfl rfl (fun g => Or.inl ⟨rfl, g.2⟩) rfl ?_
        refine r_iload (pc' := 77) d_X7_check_75 rfl rfl ?_
        refine r_lload_n (pc' := 78) d_X7_check_77 rfl rfl rfl ?_
        refine v2_i (mc := mi_X6_rests) (bc := (0, 0)) (b' := _) (pc' := 81) cw_X7_218 d_X7_check_78 rfl rfl rfl (Nat.zero_add _).symm (Nat.zero_add _).symm rfl h (fun _ _ e => t_X6_rests e) (fun x3 s2 h => ?_)
        refine r_if_ne (pcT := 87) (pc' := 84) d_X7_check_81 rfl rfl h (fun _ h => ?_) (fun _ h => ?_)
        · refine r_iload (pc' := 86) d_X7_check_84 rfl rfl ?_
          exact r_iret d_X7_check_86 rfl h
        · refine r_lload (pc' := 89) d_X7_check_87 rfl rfl ?_
          refine r_lconst (pc' := 90) (x := 1) d_X7_check_89 rfl rfl ?_
          refine r_iload (pc' := 92) d_X7_check_90 rfl rfl ?_
          refine r_lshl (pc' := 93) d_X7_check_92 rfl ?_
          refine r_lor (pc' := 94) d_X7_check_93 rfl ?_
          refine l_lstore (pc' := 96) d_X7_check_94 rfl rfl rfl h (fun x4 h => ?_)
          exact WM.drop [7] rfl (t_X7_check_96 ih h)
      · exact WM.drop [7] rfl (t_X7_check_96 ih h)
def f_X7_check (v1 : Int32) (σ : SS) : Option (Int32 × SS) := cal (f_X0_has v1 σ) (fun x2 s1 => if x2 = 0 then (some ((-1 : Int32), s1)) else (cal (f_X0_gather v1 s1) (fun _ s3 => cal (f_X0_gathered  s3) (fun x5 s4 => f_X7_check_35 FU x5 (0 : Int64) (0 : Int32) s4))))
set_option maxRecDepth 20000 in
theorem t_X7_check {d : Nat} {b : Nat × Nat} {v1 : Int32} {σ : SS} {r : Int32} {σ' : SS} (h : f_X7_check v1 σ = some (r, σ')) : MM (d + 15) b mi_X7_check [vR 0 0, vI v1] σ (some (vI r), σ') := by
  refine MM.of (lv := [some (vR 0 0), some (vI v1), none, none, none, none, none, none]) (by decide +kernel) rfl rfl (fun X Y => ?_)
  rw [f_X7_check] at h
  refine r_aload_n (pc' := 1) d_X7_check_0 rfl rfl rfl ?_
  refine r_get (v := vR 12 _) (pc' := 4) fl_X7_33 d_X7_check_1 rfl rfl (fun g => Or.inl ⟨rfl, g.2⟩) rfl ?_
  refine r_iload_n (pc' := 5) d_X7_check_4 rfl rfl rfl ?_
  refine v1_i (mc := mi_X0_has) (bc := (0, 0)) (b' := _) (pc' := 8) cw_X7_185 d_X7_check_5 rfl rfl rfl (Nat.zero_add _).symm (Nat.zero_add _).symm rfl h (fun _ _ e => t_X0_has e) (fun x2 s1 h => ?_)
  refine r_if_ne (pcT := 13) (pc' := 11) d_X7_check_8 rfl rfl h (fun _ h => ?_) (fun _ h => ?_)
  · refine r_iconst (pc' := 12) d_X7_check_11 ci_m1 rfl ?_
    exact r_iret d_X7_check_12 rfl h
  · refine r_aload_n (pc' := 14) d_X7_check_13 rfl rfl rfl ?_
    refine r_get (v := vR 12 _) (pc' := 17) fl_X7_33 d_X7_check_14 rfl rfl (fun g => Or.inl ⟨rfl, g.2⟩) rfl ?_
    refine r_iload_n (pc' := 18) d_X7_check_17 rfl rfl rfl ?_
    refine v1_v (mc := mi_X0_gather) (bc := (0, 0)) (b' := _) (pc' := 21) cw_X7_203 d_X7_check_18 rfl rfl rfl (Nat.zero_add _).symm (Nat.zero_add _).symm rfl h (fun _ _ e => t_X0_gather e) (fun _ s3 h => ?_)
    refine r_aload_n (pc' := 22) d_X7_check_21 rfl rfl rfl ?_
    refine r_get (v := vR 12 _) (pc' := 25) fl_X7_33 d_X7_check_22 rfl rfl (fun g => Or.inl ⟨rfl, g.2⟩) rfl ?_
    refine v0_l (mc := mi_X0_gathered) (bc := (0, 0)) (b' := _) (pc' := 28) cw_X7_215 d_X7_check_25 rfl rfl rfl (Nat.zero_add _).symm (Nat.zero_add _).symm rfl h (fun _ _ e => t_X0_gathered e) (fun x5 s4 h => ?_)
    refine r_lstore_n (pc' := 29) d_X7_check_28 rfl rfl rfl rfl ?_
    refine r_lconst (pc' := 30) (x := 0) d_X7_check_29 rfl rfl ?_
    refine r_lstore (pc' := 32) d_X7_check_30 rfl rfl rfl ?_
    refine r_iconst (pc' := 33) d_X7_check_32 ci_0 rfl ?_
    refine r_istore (pc' := 35) d_X7_check_33 rfl rfl rfl ?_
    exact WM.drop [1] rfl (t_X7_check_35 _ _ _ _ _ h)
/-! OctagonYard.undo()I -/
def mi_X7_undo : MI := (yX7_undo, cX7_undo, 3, (some .int))
theorem d_X7_undo_0 : decode mi_X7_undo.2.1 0 = .ok (.aload_n 0, 1) := by decide +kernel
theorem d_X7_undo_1 : decode mi_X7_undo.2.1 1 = .ok (.getfield 19, 3) := by decide +kernel
theorem d_X7_undo_4 : decode mi_X7_undo.2.1 4 = .ok (.getfield 222, 3) := by decide +kernel
theorem d_X7_undo_7 : decode mi_X7_undo.2.1 7 = .ok (.ifCond .ne 6, 3) := by decide +kernel
theorem d_X7_undo_10 : decode mi_X7_undo.2.1 10 = .ok (.bipush (-4), 2) := by decide +kernel
theorem d_X7_undo_12 : decode mi_X7_undo.2.1 12 = .ok (.ireturn, 1) := by decide +kernel
theorem d_X7_undo_13 : decode mi_X7_undo.2.1 13 = .ok (.aload_n 0, 1) := by decide +kernel
theorem d_X7_undo_14 : decode mi_X7_undo.2.1 14 = .ok (.getfield 19, 3) := by decide +kernel
theorem d_X7_undo_17 : decode mi_X7_undo.2.1 17 = .ok (.invokevirtual 225, 3) := by decide +kernel
theorem d_X7_undo_20 : decode mi_X7_undo.2.1 20 = .ok (.istore_n 1, 1) := by decide +kernel
theorem d_X7_undo_21 : decode mi_X7_undo.2.1 21 = .ok (.iload_n 1, 1) := by decide +kernel
theorem d_X7_undo_22 : decode mi_X7_undo.2.1 22 = .ok (.iconst (-1), 1) := by decide +kernel
theorem d_X7_undo_23 : decode mi_X7_undo.2.1 23 = .ok (.if_icmp .eq 24, 3) := by decide +kernel
theorem d_X7_undo_26 : decode mi_X7_undo.2.1 26 = .ok (.aload_n 0, 1) := by decide +kernel
theorem d_X7_undo_27 : decode mi_X7_undo.2.1 27 = .ok (.getfield 33, 3) := by decide +kernel
theorem d_X7_undo_30 : decode mi_X7_undo.2.1 30 = .ok (.iload_n 1, 1) := by decide +kernel
theorem d_X7_undo_31 : decode mi_X7_undo.2.1 31 = .ok (.invokevirtual 107, 3) := by decide +kernel
theorem d_X7_undo_34 : decode mi_X7_undo.2.1 34 = .ok (.ifCond .eq 6, 3) := by decide +kernel
theorem d_X7_undo_37 : decode mi_X7_undo.2.1 37 = .ok (.bipush (-2), 2) := by decide +kernel
theorem d_X7_undo_39 : decode mi_X7_undo.2.1 39 = .ok (.ireturn, 1) := by decide +kernel
theorem d_X7_undo_40 : decode mi_X7_undo.2.1 40 = .ok (.aload_n 0, 1) := by decide +kernel
theorem d_X7_undo_41 : decode mi_X7_undo.2.1 41 = .ok (.getfield 10, 3) := by decide +kernel
theorem d_X7_undo_44 : decode mi_X7_undo.2.1 44 = .ok (.invokevirtual 228, 3) := by decide +kernel
theorem d_X7_undo_47 : decode mi_X7_undo.2.1 47 = .ok (.aload_n 0, 1) := by decide +kernel
theorem d_X7_undo_48 : decode mi_X7_undo.2.1 48 = .ok (.getfield 10, 3) := by decide +kernel
theorem d_X7_undo_51 : decode mi_X7_undo.2.1 51 = .ok (.aload_n 0, 1) := by decide +kernel
theorem d_X7_undo_52 : decode mi_X7_undo.2.1 52 = .ok (.getfield 19, 3) := by decide +kernel
theorem d_X7_undo_55 : decode mi_X7_undo.2.1 55 = .ok (.invokevirtual 231, 3) := by decide +kernel
theorem d_X7_undo_58 : decode mi_X7_undo.2.1 58 = .ok (.invokevirtual 234, 3) := by decide +kernel
theorem d_X7_undo_61 : decode mi_X7_undo.2.1 61 = .ok (.astore_n 2, 1) := by decide +kernel
theorem d_X7_undo_62 : decode mi_X7_undo.2.1 62 = .ok (.aload_n 2, 1) := by decide +kernel
theorem d_X7_undo_63 : decode mi_X7_undo.2.1 63 = .ok (.ifnull 19, 3) := by decide +kernel
theorem d_X7_undo_66 : decode mi_X7_undo.2.1 66 = .ok (.aload_n 2, 1) := by decide +kernel
theorem d_X7_undo_67 : decode mi_X7_undo.2.1 67 = .ok (.iconst 1, 1) := by decide +kernel
theorem d_X7_undo_68 : decode mi_X7_undo.2.1 68 = .ok (.putfield 111, 3) := by decide +kernel
theorem d_X7_undo_71 : decode mi_X7_undo.2.1 71 = .ok (.aload_n 0, 1) := by decide +kernel
theorem d_X7_undo_72 : decode mi_X7_undo.2.1 72 = .ok (.getfield 19, 3) := by decide +kernel
theorem d_X7_undo_75 : decode mi_X7_undo.2.1 75 = .ok (.aload_n 2, 1) := by decide +kernel
theorem d_X7_undo_76 : decode mi_X7_undo.2.1 76 = .ok (.getfield 53, 3) := by decide +kernel
theorem d_X7_undo_79 : decode mi_X7_undo.2.1 79 = .ok (.invokevirtual 237, 3) := by decide +kernel
theorem d_X7_undo_82 : decode mi_X7_undo.2.1 82 = .ok (.aload_n 0, 1) := by decide +kernel
theorem d_X7_undo_83 : decode mi_X7_undo.2.1 83 = .ok (.getfield 19, 3) := by decide +kernel
theorem d_X7_undo_86 : decode mi_X7_undo.2.1 86 = .ok (.invokevirtual 241, 3) := by decide +kernel
theorem d_X7_undo_89 : decode mi_X7_undo.2.1 89 = .ok (.aload_n 0, 1) := by decide +kernel
theorem d_X7_undo_90 : decode mi_X7_undo.2.1 90 = .ok (.getfield 19, 3) := by decide +kernel
theorem d_X7_undo_93 : decode mi_X7_undo.2.1 93 = .ok (.getfield 222, 3) := by decide +kernel
theorem d_X7_undo_96 : decode mi_X7_undo.2.1 96 = .ok (.ireturn, 1) := by decide +kernel
theorem fl_X7_222 : FL RX7 222 2 5 4 := ⟨RX2, TX2, rfl, by decide, rfl, by decide +kernel, in_2⟩
theorem cw_X7_225 : CV RX7 225 mi_X2_latestFresh 0 := by unfold CV; decide +kernel
theorem cw_X7_228 : CV RX7 228 mi_X6_takeBackLatest 0 := by unfold CV; decide +kernel
theorem cw_X7_231 : CV RX7 231 mi_X2_latestChanged 0 := by unfold CV; decide +kernel
theorem cw_X7_234 : CV RX7 234 mi_X6_findEvenScrapped 1 := by unfold CV; decide +kernel
theorem cw_X7_237 : CV RX7 237 mi_X2_giveBack 1 := by unfold CV; decide +kernel
theorem cw_X7_241 : CV RX7 241 mi_X2_dropLatest 0 := by unfold CV; decide +kernel
def f_X7_undo_82 (σ : SS) : Option (Int32 × SS) := cal (f_X2_dropLatest  σ) (fun _ s1 => some ((s1.1 3 0 4), s1))
set_option maxRecDepth 20000 in
theorem t_X7_undo_82 {d : Nat} {X : MX} {Y : MY} {b : Nat × Nat} {r : Int32} {σ' : SS} {σ : SS} (h : f_X7_undo_82 σ = some (r, σ')) : WM (d + 4) X Y b mi_X7_undo 82 [some (vR 0 0), none, none] [] σ (some (vI r), σ') := by
  rw [f_X7_undo_82] at h
  refine r_aload_n (pc' := 83) d_X7_undo_82 rfl rfl rfl ?_
  refine r_get (v := vR 3 _) (pc' := 86) fl_X7_19 d_X7_undo_83 rfl rfl (fun g => Or.inl ⟨rfl, g.2⟩) rfl ?_
  refine v0_v (mc := mi_X2_dropLatest) (bc := (0, 0)) (b' := _) (pc' := 89) cw_X7_241 d_X7_undo_86 rfl rfl rfl (Nat.zero_add _).symm (Nat.zero_add _).symm rfl h (fun _ _ e => t_X2_dropLatest e) (fun _ s1 h => ?_)
  refine r_aload_n (pc' := 90) d_X7_undo_89 rfl rfl rfl ?_
  refine r_get (v := vR 3 _) (pc' := 93) fl_X7_19 d_X7_undo_90 rfl rfl (fun g => Or.inl ⟨rfl, g.2⟩) rfl ?_
  refine r_get (v := vI _) (pc' := 96) fl_X7_222 d_X7_undo_93 rfl rfl (fun _ => trivial) rfl ?_
  exact r_iret d_X7_undo_96 rfl h
def f_X7_undo_47 (σ : SS) : Option (Int32 × SS) := cal (f_X2_latestChanged  σ) (fun x2 s1 => cal (f_X6_findEvenScrapped x2 s1) (fun q4 s3 => Option.elim q4 (f_X7_undo_82  s3) (fun i5 => lt_ (up s3 16 i5 4 (1 : Int32)) (fun s6 => cal (f_X2_giveBack i5 s6) (fun _ s7 => f_X7_undo_82  s7)))))
set_option maxRecDepth 20000 in
theorem t_X7_undo_47 {d : Nat} {X : MX} {Y : MY} {b : Nat × Nat} {r : Int32} {σ' : SS} {σ : SS} (h : f_X7_undo_47 σ = some (r, σ')) : WM (d + 4) X Y b mi_X7_undo 47 [some (vR 0 0), none, none] [] σ (some (vI r), σ') := by
  rw [f_X7_undo_47] at h
  refine r_aload_n (pc' := 48) d_X7_undo_47 rfl rfl rfl ?_
  refine r_get (v := vR 1 _) (pc' := 51) fl_X7_10 d_X7_undo_48 rfl rfl (fun g => Or.inl ⟨rfl, g.2⟩) rfl ?_
  refine r_aload_n (pc' := 52) d_X7_undo_51 rfl rfl rfl ?_
  refine r_get (v := vR 3 _) (pc' := 55) fl_X7_19 d_X7_undo_52 rfl rfl (fun g => Or.inl ⟨rfl, g.2⟩) rfl ?_
  refine v0_i (mc := mi_X2_latestChanged) (bc := (0, 0)) (b' := _) (pc' := 58) cw_X7_231 d_X7_undo_55 rfl rfl rfl (Nat.zero_add _).symm (Nat.zero_add _).symm rfl h (fun _ _ e => t_X2_latestChanged e) (fun x2 s1 h => ?_)
  refine v1_o (t := 16) (mc := mi_X6_findEvenScrapped) (bc := (0, 0)) (b' := _) (pc' := 61) cw_X7_234 d_X7_undo_58 rfl rfl rfl (Nat.zero_add _).symm (Nat.zero_add _).symm rfl h (fun _ _ e => t_X6_findEvenScrapped e) (fun q4 s3 h => ?_)
  refine r_astore_n (pc' := 62) d_X7_undo_61 rfl rfl rfl rfl ?_
  refine r_aload_n (pc' := 63) d_X7_undo_62 rfl rfl rfl ?_
  refine r_ifnull (pcT := 82) (pc' := 66) d_X7_undo_63 rfl rfl h (fun e hn => ?_) (fun i5 e hn => ?_)
  · clear h; subst e; have h := hn; clear hn
    exact WM.drop [2] rfl (t_X7_undo_82 h)
  · clear h; subst e; have h := hn; clear hn
    refine r_aload_n (pc' := 67) d_X7_undo_66 rfl rfl rfl ?_
    refine r_iconst (pc' := 68) d_X7_undo_67 ci_1 rfl ?_
    refine l_put (k := 4) (pc' := 71) fl_X7_111 fw_4_4 (narrow_z (Or.inr rfl)) (fits_z (Or.inr rfl)) d_X7_undo_68 rfl (by decide) (by decide) rfl rfl h (fun s6 h => ?_)
    refine r_aload_n (pc' := 72) d_X7_undo_71 rfl rfl rfl ?_
    refine r_get (v := vR 3 _) (pc' := 75) fl_X7_19 d_X7_undo_72 rfl rfl (fun g => Or.inl ⟨rfl, g.2⟩) rfl ?_
    refine r_aload_n (pc' := 76) d_X7_undo_75 rfl rfl rfl ?_
    refine r_get (v := vR 17 _) (pc' := 79) fl_X7_53 d_X7_undo_76 rfl rfl (fun g => Or.inl ⟨rfl, g.2⟩) rfl ?_
    refine v1_v (mc := mi_X2_giveBack) (bc := (0, 0)) (b' := _) (pc' := 82) cw_X7_237 d_X7_undo_79 rfl rfl rfl (Nat.zero_add _).symm (Nat.zero_add _).symm rfl h (fun _ _ e => t_X2_giveBack e) (fun _ s7 h => ?_)
    exact WM.drop [2] rfl (t_X7_undo_82 h)
def f_X7_undo (σ : SS) : Option (Int32 × SS) := if (σ.1 3 0 4) = 0 then (some ((-4 : Int32), σ)) else (cal (f_X2_latestFresh  σ) (fun x2 s1 => if x2 = (-1 : Int32) then (f_X7_undo_47  s1) else (cal (f_X0_hold x2 s1) (fun x4 s3 => if x4 = 0 then (cal (f_X6_takeBackLatest  s3) (fun _ s5 => f_X7_undo_47  s5)) else (some ((-2 : Int32), s3))))))
set_option maxRecDepth 20000 in
theorem t_X7_undo {d : Nat} {b : Nat × Nat} {σ : SS} {r : Int32} {σ' : SS} (h : f_X7_undo σ = some (r, σ')) : MM (d + 4) b mi_X7_undo [vR 0 0] σ (some (vI r), σ') := by
  refine MM.of (lv := [some (vR 0 0), none, none]) (by decide +kernel) rfl rfl (fun X Y => ?_)
  rw [f_X7_undo] at h
  refine r_aload_n (pc' := 1) d_X7_undo_0 rfl rfl rfl ?_
  refine r_get (v := vR 3 _) (pc' := 4) fl_X7_19 d_X7_undo_1 rfl rfl (fun g => Or.inl ⟨rfl, g.2⟩) rfl ?_
  refine r_get (v := vI _) (pc' := 7) fl_X7_222 d_X7_undo_4 rfl rfl (fun _ => trivial) rfl ?_
  refine r_if_ne (pcT := 13) (pc' := 10) d_X7_undo_7 rfl rfl h (fun _ h => ?_) (fun _ h => ?_)
  · refine r_bipush (pc' := 12) d_X7_undo_10 cb_m4 rfl ?_
    exact r_iret d_X7_undo_12 rfl h
  · refine r_aload_n (pc' := 14) d_X7_undo_13 rfl rfl rfl ?_
    refine r_get (v := vR 3 _) (pc' := 17) fl_X7_19 d_X7_undo_14 rfl rfl (fun g => Or.inl ⟨rfl, g.2⟩) rfl ?_
    refine v0_i (mc := mi_X2_latestFresh) (bc := (0, 0)) (b' := _) (pc' := 20) cw_X7_225 d_X7_undo_17 rfl rfl rfl (Nat.zero_add _).symm (Nat.zero_add _).symm rfl h (fun _ _ e => t_X2_latestFresh e) (fun x2 s1 h => ?_)
    refine r_istore_n (pc' := 21) d_X7_undo_20 rfl rfl rfl rfl ?_
    refine r_iload_n (pc' := 22) d_X7_undo_21 rfl rfl rfl ?_
    refine r_iconst (pc' := 23) d_X7_undo_22 ci_m1 rfl ?_
    refine r_icmp_eq (pcT := 47) (pc' := 26) d_X7_undo_23 rfl rfl h (fun _ h => ?_) (fun _ h => ?_)
    · exact WM.drop [1] rfl (t_X7_undo_47 h)
    · refine r_aload_n (pc' := 27) d_X7_undo_26 rfl rfl rfl ?_
      refine r_get (v := vR 12 _) (pc' := 30) fl_X7_33 d_X7_undo_27 rfl rfl (fun g => Or.inl ⟨rfl, g.2⟩) rfl ?_
      refine r_iload_n (pc' := 31) d_X7_undo_30 rfl rfl rfl ?_
      refine v1_i (mc := mi_X0_hold) (bc := (0, 0)) (b' := _) (pc' := 34) cw_X7_107 d_X7_undo_31 rfl rfl rfl (Nat.zero_add _).symm (Nat.zero_add _).symm rfl h (fun _ _ e => t_X0_hold e) (fun x4 s3 h => ?_)
      refine r_if_eq (pcT := 40) (pc' := 37) d_X7_undo_34 rfl rfl h (fun _ h => ?_) (fun _ h => ?_)
      · refine r_aload_n (pc' := 41) d_X7_undo_40 rfl rfl rfl ?_
        refine r_get (v := vR 1 _) (pc' := 44) fl_X7_10 d_X7_undo_41 rfl rfl (fun g => Or.inl ⟨rfl, g.2⟩) rfl ?_
        refine v0_v (mc := mi_X6_takeBackLatest) (bc := (0, 0)) (b' := _) (pc' := 47) cw_X7_228 d_X7_undo_44 rfl rfl rfl (Nat.zero_add _).symm (Nat.zero_add _).symm rfl h (fun _ _ e => t_X6_takeBackLatest e) (fun _ s5 h => ?_)
        exact WM.drop [1] rfl (t_X7_undo_47 h)
      · refine r_bipush (pc' := 39) d_X7_undo_37 cb_m2 rfl ?_
        exact r_iret d_X7_undo_39 rfl h
/-! OctagonYard.count(I)I -/
def mi_X7_count : MI := (yX7_count, cX7_count, 2, (some .int))
theorem d_X7_count_0 : decode mi_X7_count.2.1 0 = .ok (.iload_n 1, 1) := by decide +kernel
theorem d_X7_count_1 : decode mi_X7_count.2.1 1 = .ok (.tableswitch 63 0 3 #[31, 39, 47, 55], 31) := by decide +kernel
theorem d_X7_count_32 : decode mi_X7_count.2.1 32 = .ok (.aload_n 0, 1) := by decide +kernel
theorem d_X7_count_33 : decode mi_X7_count.2.1 33 = .ok (.getfield 10, 3) := by decide +kernel
theorem d_X7_count_36 : decode mi_X7_count.2.1 36 = .ok (.invokevirtual 244, 3) := by decide +kernel
theorem d_X7_count_39 : decode mi_X7_count.2.1 39 = .ok (.ireturn, 1) := by decide +kernel
theorem d_X7_count_40 : decode mi_X7_count.2.1 40 = .ok (.aload_n 0, 1) := by decide +kernel
theorem d_X7_count_41 : decode mi_X7_count.2.1 41 = .ok (.getfield 26, 3) := by decide +kernel
theorem d_X7_count_44 : decode mi_X7_count.2.1 44 = .ok (.getfield 247, 3) := by decide +kernel
theorem d_X7_count_47 : decode mi_X7_count.2.1 47 = .ok (.ireturn, 1) := by decide +kernel
theorem d_X7_count_48 : decode mi_X7_count.2.1 48 = .ok (.aload_n 0, 1) := by decide +kernel
theorem d_X7_count_49 : decode mi_X7_count.2.1 49 = .ok (.getfield 33, 3) := by decide +kernel
theorem d_X7_count_52 : decode mi_X7_count.2.1 52 = .ok (.getfield 248, 3) := by decide +kernel
theorem d_X7_count_55 : decode mi_X7_count.2.1 55 = .ok (.ireturn, 1) := by decide +kernel
theorem d_X7_count_56 : decode mi_X7_count.2.1 56 = .ok (.aload_n 0, 1) := by decide +kernel
theorem d_X7_count_57 : decode mi_X7_count.2.1 57 = .ok (.getfield 10, 3) := by decide +kernel
theorem d_X7_count_60 : decode mi_X7_count.2.1 60 = .ok (.getfield 72, 3) := by decide +kernel
theorem d_X7_count_63 : decode mi_X7_count.2.1 63 = .ok (.ireturn, 1) := by decide +kernel
theorem d_X7_count_64 : decode mi_X7_count.2.1 64 = .ok (.iconst (-1), 1) := by decide +kernel
theorem d_X7_count_65 : decode mi_X7_count.2.1 65 = .ok (.ireturn, 1) := by decide +kernel
theorem fl_X7_247 : FL RX7 247 5 6 4 := ⟨RX5, TX5, rfl, by decide, rfl, by decide +kernel, in_5⟩
theorem fl_X7_248 : FL RX7 248 0 5 1 := ⟨RX0, TX0, rfl, by decide, rfl, by decide +kernel, in_0⟩
theorem cw_X7_244 : CV RX7 244 mi_X6_present 0 := by unfold CV; decide +kernel
def f_X7_count (v1 : Int32) (σ : SS) : Option (Int32 × SS) := if v1 = 0 then (cal (f_X6_present  σ) (fun x3 s2 => some (x3, s2))) else (if v1 = 1 then (some ((σ.1 7 0 4), σ)) else (if v1 = 2 then (some ((σ.1 12 0 1), σ)) else (if v1 = 3 then (some ((σ.1 1 0 2), σ)) else (some ((-1 : Int32), σ)))))
set_option maxRecDepth 20000 in
theorem t_X7_count {d : Nat} {b : Nat × Nat} {v1 : Int32} {σ : SS} {r : Int32} {σ' : SS} (h : f_X7_count v1 σ = some (r, σ')) : MM (d + 4) b mi_X7_count [vR 0 0, vI v1] σ (some (vI r), σ') := by
  refine MM.of (lv := [some (vR 0 0), some (vI v1)]) (by decide +kernel) rfl rfl (fun X Y => ?_)
  rw [f_X7_count] at h
  refine r_iload_n (pc' := 1) d_X7_count_0 rfl rfl rfl ?_
  refine ite_c h (fun c1 h => ?_) (fun c1 h => ?_)
  · refine r_tswIn (c := 0) (off := 31) (pc' := 32) d_X7_count_1 c1 (by decide) (by decide) (by decide) rfl ?_
    refine r_aload_n (pc' := 33) d_X7_count_32 rfl rfl rfl ?_
    refine r_get (v := vR 1 _) (pc' := 36) fl_X7_10 d_X7_count_33 rfl rfl (fun g => Or.inl ⟨rfl, g.2⟩) rfl ?_
    refine v0_i (mc := mi_X6_present) (bc := (0, 0)) (b' := _) (pc' := 39) cw_X7_244 d_X7_count_36 rfl rfl rfl (Nat.zero_add _).symm (Nat.zero_add _).symm rfl h (fun _ _ e => t_X6_present e) (fun x3 s2 h => ?_)
    exact r_iret d_X7_count_39 rfl h
  refine ite_c h (fun c4 h => ?_) (fun c4 h => ?_)
  · refine r_tswIn (c := 1) (off := 39) (pc' := 40) d_X7_count_1 c4 (by decide) (by decide) (by decide) rfl ?_
    refine r_aload_n (pc' := 41) d_X7_count_40 rfl rfl rfl ?_
    refine r_get (v := vR 7 _) (pc' := 44) fl_X7_26 d_X7_count_41 rfl rfl (fun g => Or.inl ⟨rfl, g.2⟩) rfl ?_
    refine r_get (v := vI _) (pc' := 47) fl_X7_247 d_X7_count_44 rfl rfl (fun _ => trivial) rfl ?_
    exact r_iret d_X7_count_47 rfl h
  refine ite_c h (fun c5 h => ?_) (fun c5 h => ?_)
  · refine r_tswIn (c := 2) (off := 47) (pc' := 48) d_X7_count_1 c5 (by decide) (by decide) (by decide) rfl ?_
    refine r_aload_n (pc' := 49) d_X7_count_48 rfl rfl rfl ?_
    refine r_get (v := vR 12 _) (pc' := 52) fl_X7_33 d_X7_count_49 rfl rfl (fun g => Or.inl ⟨rfl, g.2⟩) rfl ?_
    refine r_get (v := vI _) (pc' := 55) fl_X7_248 d_X7_count_52 rfl rfl (fun _ => trivial) rfl ?_
    exact r_iret d_X7_count_55 rfl h
  refine ite_c h (fun c6 h => ?_) (fun c6 h => ?_)
  · refine r_tswIn (c := 3) (off := 55) (pc' := 56) d_X7_count_1 c6 (by decide) (by decide) (by decide) rfl ?_
    refine r_aload_n (pc' := 57) d_X7_count_56 rfl rfl rfl ?_
    refine r_get (v := vR 1 _) (pc' := 60) fl_X7_10 d_X7_count_57 rfl rfl (fun g => Or.inl ⟨rfl, g.2⟩) rfl ?_
    refine r_get (v := vI _) (pc' := 63) fl_X7_72 d_X7_count_60 rfl rfl (fun _ => trivial) rfl ?_
    exact r_iret d_X7_count_63 rfl h
  have g0 := lv_neT c1 (show (0 : Int32).toInt = 0 by decide)
  have g1 := lv_neT c4 (show (1 : Int32).toInt = 1 by decide)
  have g2 := lv_neT c5 (show (2 : Int32).toInt = 2 by decide)
  have g3 := lv_neT c6 (show (3 : Int32).toInt = 3 by decide)
  refine r_tswOut (pc' := 64) d_X7_count_1 (by omega) rfl ?_
  refine r_iconst (pc' := 65) d_X7_count_64 ci_m1 rfl ?_
  exact r_iret d_X7_count_65 rfl h
