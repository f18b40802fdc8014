/-! OctagonYard$Octagon.crossX(II)I -/
def mi_X3_crossX : MI := (yX3_crossX, cX3_crossX, 3, (some .int))
theorem d_X3_crossX_0 : decode mi_X3_crossX.2.1 0 = .ok (.aload_n 0, 1) := by decide +kernel
theorem d_X3_crossX_1 : decode mi_X3_crossX.2.1 1 = .ok (.getfield 9, 3) := by decide +kernel
theorem d_X3_crossX_4 : decode mi_X3_crossX.2.1 4 = .ok (.iload_n 1, 1) := by decide +kernel
theorem d_X3_crossX_5 : decode mi_X3_crossX.2.1 5 = .ok (.iaload, 1) := by decide +kernel
theorem d_X3_crossX_6 : decode mi_X3_crossX.2.1 6 = .ok (.getstatic 112, 3) := by decide +kernel
theorem d_X3_crossX_9 : decode mi_X3_crossX.2.1 9 = .ok (.iload_n 2, 1) := by decide +kernel
theorem d_X3_crossX_10 : decode mi_X3_crossX.2.1 10 = .ok (.iaload, 1) := by decide +kernel
theorem d_X3_crossX_11 : decode mi_X3_crossX.2.1 11 = .ok (.imul, 1) := by decide +kernel
theorem d_X3_crossX_12 : decode mi_X3_crossX.2.1 12 = .ok (.aload_n 0, 1) := by decide +kernel
theorem d_X3_crossX_13 : decode mi_X3_crossX.2.1 13 = .ok (.getfield 9, 3) := by decide +kernel
theorem d_X3_crossX_16 : decode mi_X3_crossX.2.1 16 = .ok (.iload_n 2, 1) := by decide +kernel
theorem d_X3_crossX_17 : decode mi_X3_crossX.2.1 17 = .ok (.iaload, 1) := by decide +kernel
theorem d_X3_crossX_18 : decode mi_X3_crossX.2.1 18 = .ok (.getstatic 112, 3) := by decide +kernel
theorem d_X3_crossX_21 : decode mi_X3_crossX.2.1 21 = .ok (.iload_n 1, 1) := by decide +kernel
theorem d_X3_crossX_22 : decode mi_X3_crossX.2.1 22 = .ok (.iaload, 1) := by decide +kernel
theorem d_X3_crossX_23 : decode mi_X3_crossX.2.1 23 = .ok (.imul, 1) := by decide +kernel
theorem d_X3_crossX_24 : decode mi_X3_crossX.2.1 24 = .ok (.isub, 1) := by decide +kernel
theorem d_X3_crossX_25 : decode mi_X3_crossX.2.1 25 = .ok (.ireturn, 1) := by decide +kernel
theorem in_3 : ∀ w ∈ u_ws RX3 TX3 5, w ∈ mtbl := by decide +kernel
theorem fl_X3_9 : FL RX3 9 3 5 0 := ⟨RX3, TX3, rfl, by decide, rfl, by decide +kernel, in_3⟩
theorem st_X3_112 : Cond.fieldLinkNest RX3 112 "OctagonYard" (snm 1) "[I" "OctagonYard" ∈ mtbl := by decide +kernel
def f_X3_crossX (v0 : Nat) (v1 : Int32) (v2 : Int32) (σ : SS) : Option (Int32 × SS) := chk (inr v1 8) (chk (inr v2 8) (chk (inr v2 8) (chk (inr v1 8) (some ((((σ.1 18 v0 (ix v1)) * (sfn 1 (ix v2))) - ((σ.1 18 v0 (ix v2)) * (sfn 1 (ix v1)))), σ)))))
set_option maxRecDepth 20000 in
theorem t_X3_crossX {d : Nat} {b : Nat × Nat} {v0 : Nat} {v1 : Int32} {v2 : Int32} {σ : SS} {r : Int32} {σ' : SS} (h : f_X3_crossX v0 v1 v2 σ = some (r, σ')) : MM d b mi_X3_crossX [vR 17 v0, vI v1, vI v2] σ (some (vI r), σ') := by
  refine MM.of (lv := [some (vR 17 v0), some (vI v1), some (vI v2)]) (by decide +kernel) rfl rfl (fun X Y => ?_)
  rw [f_X3_crossX] at h
  refine r_aload_n (pc' := 1) d_X3_crossX_0 rfl rfl rfl ?_
  refine r_get (v := vR 18 _) (pc' := 4) fl_X3_9 d_X3_crossX_1 rfl rfl (fun g => Or.inl ⟨rfl, g.2⟩) rfl ?_
  refine r_iload_n (pc' := 5) d_X3_crossX_4 rfl rfl rfl ?_
  refine r_iaload (pc' := 6) d_X3_crossX_5 rfl (fun _ => rfl) rfl h (fun h => ?_)
  refine r_getstaticN (k := 1) (pc' := 9) st_X3_112 d_X3_crossX_6 (by decide) rfl ?_
  refine r_iload_n (pc' := 10) d_X3_crossX_9 rfl rfl rfl ?_
  refine r_saload (k := 1) (pc' := 11) d_X3_crossX_10 (by decide) rfl h (fun h => ?_)
  refine r_imul (pc' := 12) d_X3_crossX_11 rfl ?_
  refine r_aload_n (pc' := 13) d_X3_crossX_12 rfl rfl rfl ?_
  refine r_get (v := vR 18 _) (pc' := 16) fl_X3_9 d_X3_crossX_13 rfl rfl (fun g => Or.inl ⟨rfl, g.2⟩) rfl ?_
  refine r_iload_n (pc' := 17) d_X3_crossX_16 rfl rfl rfl ?_
  refine r_iaload (pc' := 18) d_X3_crossX_17 rfl (fun _ => rfl) rfl h (fun h => ?_)
  refine r_getstaticN (k := 1) (pc' := 21) st_X3_112 d_X3_crossX_18 (by decide) rfl ?_
  refine r_iload_n (pc' := 22) d_X3_crossX_21 rfl rfl rfl ?_
  refine r_saload (k := 1) (pc' := 23) d_X3_crossX_22 (by decide) rfl h (fun h => ?_)
  refine r_imul (pc' := 24) d_X3_crossX_23 rfl ?_
  refine r_isub (pc' := 25) d_X3_crossX_24 rfl ?_
  exact r_iret d_X3_crossX_25 rfl h
/-! OctagonYard$Octagon.crossY(II)I -/
def mi_X3_crossY : MI := (yX3_crossY, cX3_crossY, 3, (some .int))
theorem d_X3_crossY_0 : decode mi_X3_crossY.2.1 0 = .ok (.aload_n 0, 1) := by decide +kernel
theorem d_X3_crossY_1 : decode mi_X3_crossY.2.1 1 = .ok (.getfield 9, 3) := by decide +kernel
theorem d_X3_crossY_4 : decode mi_X3_crossY.2.1 4 = .ok (.iload_n 2, 1) := by decide +kernel
theorem d_X3_crossY_5 : decode mi_X3_crossY.2.1 5 = .ok (.iaload, 1) := by decide +kernel
theorem d_X3_crossY_6 : decode mi_X3_crossY.2.1 6 = .ok (.getstatic 115, 3) := by decide +kernel
theorem d_X3_crossY_9 : decode mi_X3_crossY.2.1 9 = .ok (.iload_n 1, 1) := by decide +kernel
theorem d_X3_crossY_10 : decode mi_X3_crossY.2.1 10 = .ok (.iaload, 1) := by decide +kernel
theorem d_X3_crossY_11 : decode mi_X3_crossY.2.1 11 = .ok (.imul, 1) := by decide +kernel
theorem d_X3_crossY_12 : decode mi_X3_crossY.2.1 12 = .ok (.aload_n 0, 1) := by decide +kernel
theorem d_X3_crossY_13 : decode mi_X3_crossY.2.1 13 = .ok (.getfield 9, 3) := by decide +kernel
theorem d_X3_crossY_16 : decode mi_X3_crossY.2.1 16 = .ok (.iload_n 1, 1) := by decide +kernel
theorem d_X3_crossY_17 : decode mi_X3_crossY.2.1 17 = .ok (.iaload, 1) := by decide +kernel
theorem d_X3_crossY_18 : decode mi_X3_crossY.2.1 18 = .ok (.getstatic 115, 3) := by decide +kernel
theorem d_X3_crossY_21 : decode mi_X3_crossY.2.1 21 = .ok (.iload_n 2, 1) := by decide +kernel
theorem d_X3_crossY_22 : decode mi_X3_crossY.2.1 22 = .ok (.iaload, 1) := by decide +kernel
theorem d_X3_crossY_23 : decode mi_X3_crossY.2.1 23 = .ok (.imul, 1) := by decide +kernel
theorem d_X3_crossY_24 : decode mi_X3_crossY.2.1 24 = .ok (.isub, 1) := by decide +kernel
theorem d_X3_crossY_25 : decode mi_X3_crossY.2.1 25 = .ok (.ireturn, 1) := by decide +kernel
theorem st_X3_115 : Cond.fieldLinkNest RX3 115 "OctagonYard" (snm 0) "[I" "OctagonYard" ∈ mtbl := by decide +kernel
def f_X3_crossY (v0 : Nat) (v1 : Int32) (v2 : Int32) (σ : SS) : Option (Int32 × SS) := chk (inr v2 8) (chk (inr v1 8) (chk (inr v1 8) (chk (inr v2 8) (some ((((σ.1 18 v0 (ix v2)) * (sfn 0 (ix v1))) - ((σ.1 18 v0 (ix v1)) * (sfn 0 (ix v2)))), σ)))))
set_option maxRecDepth 20000 in
theorem t_X3_crossY {d : Nat} {b : Nat × Nat} {v0 : Nat} {v1 : Int32} {v2 : Int32} {σ : SS} {r : Int32} {σ' : SS} (h : f_X3_crossY v0 v1 v2 σ = some (r, σ')) : MM d b mi_X3_crossY [vR 17 v0, vI v1, vI v2] σ (some (vI r), σ') := by
  refine MM.of (lv := [some (vR 17 v0), some (vI v1), some (vI v2)]) (by decide +kernel) rfl rfl (fun X Y => ?_)
  rw [f_X3_crossY] at h
  refine r_aload_n (pc' := 1) d_X3_crossY_0 rfl rfl rfl ?_
  refine r_get (v := vR 18 _) (pc' := 4) fl_X3_9 d_X3_crossY_1 rfl rfl (fun g => Or.inl ⟨rfl, g.2⟩) rfl ?_
  refine r_iload_n (pc' := 5) d_X3_crossY_4 rfl rfl rfl ?_
  refine r_iaload (pc' := 6) d_X3_crossY_5 rfl (fun _ => rfl) rfl h (fun h => ?_)
  refine r_getstaticN (k := 0) (pc' := 9) st_X3_115 d_X3_crossY_6 (by decide) rfl ?_
  refine r_iload_n (pc' := 10) d_X3_crossY_9 rfl rfl rfl ?_
  refine r_saload (k := 0) (pc' := 11) d_X3_crossY_10 (by decide) rfl h (fun h => ?_)
  refine r_imul (pc' := 12) d_X3_crossY_11 rfl ?_
  refine r_aload_n (pc' := 13) d_X3_crossY_12 rfl rfl rfl ?_
  refine r_get (v := vR 18 _) (pc' := 16) fl_X3_9 d_X3_crossY_13 rfl rfl (fun g => Or.inl ⟨rfl, g.2⟩) rfl ?_
  refine r_iload_n (pc' := 17) d_X3_crossY_16 rfl rfl rfl ?_
  refine r_iaload (pc' := 18) d_X3_crossY_17 rfl (fun _ => rfl) rfl h (fun h => ?_)
  refine r_getstaticN (k := 0) (pc' := 21) st_X3_115 d_X3_crossY_18 (by decide) rfl ?_
  refine r_iload_n (pc' := 22) d_X3_crossY_21 rfl rfl rfl ?_
  refine r_saload (k := 0) (pc' := 23) d_X3_crossY_22 (by decide) rfl h (fun h => ?_)
  refine r_imul (pc' := 24) d_X3_crossY_23 rfl ?_
  refine r_isub (pc' := 25) d_X3_crossY_24 rfl ?_
  exact r_iret d_X3_crossY_25 rfl h
/-! OctagonYard$Octagon.settle()V -/
def mi_X3_settle : MI := (yX3_settle, cX3_settle, 7, none)
theorem d_X3_settle_0 : decode mi_X3_settle.2.1 0 = .ok (.aload_n 0, 1) := by decide +kernel
theorem d_X3_settle_1 : decode mi_X3_settle.2.1 1 = .ok (.iconst 0, 1) := by decide +kernel
theorem d_X3_settle_2 : decode mi_X3_settle.2.1 2 = .ok (.putfield 54, 3) := by decide +kernel
theorem d_X3_settle_5 : decode mi_X3_settle.2.1 5 = .ok (.iconst 0, 1) := by decide +kernel
theorem d_X3_settle_6 : decode mi_X3_settle.2.1 6 = .ok (.istore_n 1, 1) := by decide +kernel
theorem d_X3_settle_7 : decode mi_X3_settle.2.1 7 = .ok (.iload_n 1, 1) := by decide +kernel
theorem d_X3_settle_8 : decode mi_X3_settle.2.1 8 = .ok (.bipush 8, 2) := by decide +kernel
theorem d_X3_settle_10 : decode mi_X3_settle.2.1 10 = .ok (.if_icmp .ge 123, 3) := by decide +kernel
theorem d_X3_settle_13 : decode mi_X3_settle.2.1 13 = .ok (.getstatic 103, 3) := by decide +kernel
theorem d_X3_settle_16 : decode mi_X3_settle.2.1 16 = .ok (.iload_n 1, 1) := by decide +kernel
theorem d_X3_settle_17 : decode mi_X3_settle.2.1 17 = .ok (.bipush 8, 2) := by decide +kernel
theorem d_X3_settle_19 : decode mi_X3_settle.2.1 19 = .ok (.iadd, 1) := by decide +kernel
theorem d_X3_settle_20 : decode mi_X3_settle.2.1 20 = .ok (.iconst 1, 1) := by decide +kernel
theorem d_X3_settle_21 : decode mi_X3_settle.2.1 21 = .ok (.isub, 1) := by decide +kernel
theorem d_X3_settle_22 : decode mi_X3_settle.2.1 22 = .ok (.bipush 8, 2) := by decide +kernel
theorem d_X3_settle_24 : decode mi_X3_settle.2.1 24 = .ok (.irem, 1) := by decide +kernel
theorem d_X3_settle_25 : decode mi_X3_settle.2.1 25 = .ok (.iaload, 1) := by decide +kernel
theorem d_X3_settle_26 : decode mi_X3_settle.2.1 26 = .ok (.istore_n 2, 1) := by decide +kernel
theorem d_X3_settle_27 : decode mi_X3_settle.2.1 27 = .ok (.getstatic 103, 3) := by decide +kernel
theorem d_X3_settle_30 : decode mi_X3_settle.2.1 30 = .ok (.iload_n 1, 1) := by decide +kernel
theorem d_X3_settle_31 : decode mi_X3_settle.2.1 31 = .ok (.iaload, 1) := by decide +kernel
theorem d_X3_settle_32 : decode mi_X3_settle.2.1 32 = .ok (.istore_n 3, 1) := by decide +kernel
theorem d_X3_settle_33 : decode mi_X3_settle.2.1 33 = .ok (.getstatic 103, 3) := by decide +kernel
theorem d_X3_settle_36 : decode mi_X3_settle.2.1 36 = .ok (.iload_n 1, 1) := by decide +kernel
theorem d_X3_settle_37 : decode mi_X3_settle.2.1 37 = .ok (.iconst 1, 1) := by decide +kernel
theorem d_X3_settle_38 : decode mi_X3_settle.2.1 38 = .ok (.iadd, 1) := by decide +kernel
theorem d_X3_settle_39 : decode mi_X3_settle.2.1 39 = .ok (.bipush 8, 2) := by decide +kernel
theorem d_X3_settle_41 : decode mi_X3_settle.2.1 41 = .ok (.irem, 1) := by decide +kernel
theorem d_X3_settle_42 : decode mi_X3_settle.2.1 42 = .ok (.iaload, 1) := by decide +kernel
theorem d_X3_settle_43 : decode mi_X3_settle.2.1 43 = .ok (.istore 4, 2) := by decide +kernel
theorem d_X3_settle_45 : decode mi_X3_settle.2.1 45 = .ok (.aload_n 0, 1) := by decide +kernel
theorem d_X3_settle_46 : decode mi_X3_settle.2.1 46 = .ok (.iload_n 2, 1) := by decide +kernel
theorem d_X3_settle_47 : decode mi_X3_settle.2.1 47 = .ok (.iload_n 3, 1) := by decide +kernel
theorem d_X3_settle_48 : decode mi_X3_settle.2.1 48 = .ok (.invokevirtual 106, 3) := by decide +kernel
theorem d_X3_settle_51 : decode mi_X3_settle.2.1 51 = .ok (.istore 5, 2) := by decide +kernel
theorem d_X3_settle_53 : decode mi_X3_settle.2.1 53 = .ok (.aload_n 0, 1) := by decide +kernel
theorem d_X3_settle_54 : decode mi_X3_settle.2.1 54 = .ok (.iload_n 2, 1) := by decide +kernel
theorem d_X3_settle_55 : decode mi_X3_settle.2.1 55 = .ok (.iload_n 3, 1) := by decide +kernel
theorem d_X3_settle_56 : decode mi_X3_settle.2.1 56 = .ok (.invokevirtual 109, 3) := by decide +kernel
theorem d_X3_settle_59 : decode mi_X3_settle.2.1 59 = .ok (.istore 6, 2) := by decide +kernel
theorem d_X3_settle_61 : decode mi_X3_settle.2.1 61 = .ok (.iload 5, 2) := by decide +kernel
theorem d_X3_settle_63 : decode mi_X3_settle.2.1 63 = .ok (.aload_n 0, 1) := by decide +kernel
theorem d_X3_settle_64 : decode mi_X3_settle.2.1 64 = .ok (.iload_n 3, 1) := by decide +kernel
theorem d_X3_settle_65 : decode mi_X3_settle.2.1 65 = .ok (.iload 4, 2) := by decide +kernel
theorem d_X3_settle_67 : decode mi_X3_settle.2.1 67 = .ok (.invokevirtual 106, 3) := by decide +kernel
theorem d_X3_settle_70 : decode mi_X3_settle.2.1 70 = .ok (.if_icmp .ne 15, 3) := by decide +kernel
theorem d_X3_settle_73 : decode mi_X3_settle.2.1 73 = .ok (.iload 6, 2) := by decide +kernel
theorem d_X3_settle_75 : decode mi_X3_settle.2.1 75 = .ok (.aload_n 0, 1) := by decide +kernel
theorem d_X3_settle_76 : decode mi_X3_settle.2.1 76 = .ok (.iload_n 3, 1) := by decide +kernel
theorem d_X3_settle_77 : decode mi_X3_settle.2.1 77 = .ok (.iload 4, 2) := by decide +kernel
theorem d_X3_settle_79 : decode mi_X3_settle.2.1 79 = .ok (.invokevirtual 109, 3) := by decide +kernel
theorem d_X3_settle_82 : decode mi_X3_settle.2.1 82 = .ok (.if_icmp .eq 45, 3) := by decide +kernel
theorem d_X3_settle_85 : decode mi_X3_settle.2.1 85 = .ok (.aload_n 0, 1) := by decide +kernel
theorem d_X3_settle_86 : decode mi_X3_settle.2.1 86 = .ok (.getfield 15, 3) := by decide +kernel
theorem d_X3_settle_89 : decode mi_X3_settle.2.1 89 = .ok (.aload_n 0, 1) := by decide +kernel
theorem d_X3_settle_90 : decode mi_X3_settle.2.1 90 = .ok (.getfield 54, 3) := by decide +kernel
theorem d_X3_settle_93 : decode mi_X3_settle.2.1 93 = .ok (.iload 5, 2) := by decide +kernel
theorem d_X3_settle_95 : decode mi_X3_settle.2.1 95 = .ok (.iastore, 1) := by decide +kernel
theorem d_X3_settle_96 : decode mi_X3_settle.2.1 96 = .ok (.aload_n 0, 1) := by decide +kernel
theorem d_X3_settle_97 : decode mi_X3_settle.2.1 97 = .ok (.getfield 18, 3) := by decide +kernel
theorem d_X3_settle_100 : decode mi_X3_settle.2.1 100 = .ok (.aload_n 0, 1) := by decide +kernel
theorem d_X3_settle_101 : decode mi_X3_settle.2.1 101 = .ok (.getfield 54, 3) := by decide +kernel
theorem d_X3_settle_104 : decode mi_X3_settle.2.1 104 = .ok (.iload 6, 2) := by decide +kernel
theorem d_X3_settle_106 : decode mi_X3_settle.2.1 106 = .ok (.iastore, 1) := by decide +kernel
theorem d_X3_settle_107 : decode mi_X3_settle.2.1 107 = .ok (.aload_n 0, 1) := by decide +kernel
theorem d_X3_settle_108 : decode mi_X3_settle.2.1 108 = .ok (.getfield 21, 3) := by decide +kernel
theorem d_X3_settle_111 : decode mi_X3_settle.2.1 111 = .ok (.aload_n 0, 1) := by decide +kernel
theorem d_X3_settle_112 : decode mi_X3_settle.2.1 112 = .ok (.getfield 54, 3) := by decide +kernel
theorem d_X3_settle_115 : decode mi_X3_settle.2.1 115 = .ok (.iload_n 3, 1) := by decide +kernel
theorem d_X3_settle_116 : decode mi_X3_settle.2.1 116 = .ok (.iastore, 1) := by decide +kernel
theorem d_X3_settle_117 : decode mi_X3_settle.2.1 117 = .ok (.aload_n 0, 1) := by decide +kernel
theorem d_X3_settle_118 : decode mi_X3_settle.2.1 118 = .ok (.dup, 1) := by decide +kernel
theorem d_X3_settle_119 : decode mi_X3_settle.2.1 119 = .ok (.getfield 54, 3) := by decide +kernel
theorem d_X3_settle_122 : decode mi_X3_settle.2.1 122 = .ok (.iconst 1, 1) := by decide +kernel
theorem d_X3_settle_123 : decode mi_X3_settle.2.1 123 = .ok (.iadd, 1) := by decide +kernel
theorem d_X3_settle_124 : decode mi_X3_settle.2.1 124 = .ok (.putfield 54, 3) := by decide +kernel
theorem d_X3_settle_127 : decode mi_X3_settle.2.1 127 = .ok (.iinc 1 1, 3) := by decide +kernel
theorem d_X3_settle_130 : decode mi_X3_settle.2.1 130 = .ok (.goto (-123), 3) := by decide +kernel
theorem d_X3_settle_133 : decode mi_X3_settle.2.1 133 = .ok (.return_, 1) := by decide +kernel
theorem fl_X3_15 : FL RX3 15 3 5 1 := ⟨RX3, TX3, rfl, by decide, rfl, by decide +kernel, in_3⟩
theorem fl_X3_18 : FL RX3 18 3 5 2 := ⟨RX3, TX3, rfl, by decide, rfl, by decide +kernel, in_3⟩
theorem fl_X3_21 : FL RX3 21 3 5 3 := ⟨RX3, TX3, rfl, by decide, rfl, by decide +kernel, in_3⟩
theorem fl_X3_54 : FL RX3 54 3 5 4 := ⟨RX3, TX3, rfl, by decide, rfl, by decide +kernel, in_3⟩
theorem fw_3_4 : FW 3 5 4 .int := ⟨RX3, TX3, tyX3, rfl, rfl, by decide +kernel, tyX3_ok, nmX3⟩
theorem st_X3_103 : Cond.fieldLinkNest RX3 103 "OctagonYard" (snm 2) "[I" "OctagonYard" ∈ mtbl := by decide +kernel
theorem cw_X3_106 : CV RX3 106 mi_X3_crossX 2 := by unfold CV; decide +kernel
theorem cw_X3_109 : CV RX3 109 mi_X3_crossY 2 := by unfold CV; decide +kernel
def f_X3_settle_127 (K7 : Nat → Int32 → SS → Option (Unit × SS)) (v0 : Nat) (v1 : Int32) (σ : SS) : Option (Unit × SS) := lt_ (v1 + (1 : Int32)) (fun x1 => K7 v0 x1 σ)
set_option maxRecDepth 20000 in
theorem t_X3_settle_127 {d : Nat} {X : MX} {Y : MY} {b : Nat × Nat} {r : Unit} {σ' : SS} {K7 : Nat → Int32 → SS → Option (Unit × SS)} {v0 : Nat} {v1 : Int32} (hK7 : ∀ (v0 : Nat) (v1 : Int32) (σ : SS), K7 v0 v1 σ = some (r, σ') → WM (d + 1) X Y b mi_X3_settle 7 [some (vR 17 v0), some (vI v1), none, none, none, none, none] [] σ (none, σ')) {σ : SS} (h : f_X3_settle_127 K7 v0 v1 σ = some (r, σ')) : WM (d + 1) X Y b mi_X3_settle 127 [some (vR 17 v0), some (vI v1), none, none, none, none, none] [] σ (none, σ') := by
  rw [f_X3_settle_127] at h
  refine l_iinc (pc' := 130) d_X3_settle_127 rfl ci_1 rfl rfl rfl h (fun x1 h => ?_)
  refine r_goto (pc' := 7) d_X3_settle_130 rfl ?_
  exact WM.drop [] rfl (hK7 _ _ _ h)
def f_X3_settle_85 (K7 : Nat → Int32 → SS → Option (Unit × SS)) (v0 : Nat) (v1 : Int32) (v3 : Int32) (v5 : Int32) (v6 : Int32) (σ : SS) : Option (Unit × SS) := chk (inr (σ.1 17 v0 4) 8) (lt_ (up σ 19 v0 (ix (σ.1 17 v0 4)) v5) (fun s1 => chk (inr (s1.1 17 v0 4) 8) (lt_ (up s1 20 v0 (ix (s1.1 17 v0 4)) v6) (fun s2 => chk (inr (s2.1 17 v0 4) 8) (lt_ (up s2 21 v0 (ix (s2.1 17 v0 4)) v3) (fun s3 => lt_ (up s3 17 v0 4 ((s3.1 17 v0 4) + (1 : Int32))) (fun s4 => f_X3_settle_127 K7 v0 v1 s4)))))))
set_option maxRecDepth 20000 in
theorem t_X3_settle_85 {d : Nat} {X : MX} {Y : MY} {b : Nat × Nat} {r : Unit} {σ' : SS} {K7 : Nat → Int32 → SS → Option (Unit × SS)} {v0 : Nat} {v1 : Int32} {v3 : Int32} {v5 : Int32} {v6 : Int32} (hK7 : ∀ (v0 : Nat) (v1 : Int32) (σ : SS), K7 v0 v1 σ = some (r, σ') → WM (d + 1) X Y b mi_X3_settle 7 [some (vR 17 v0), some (vI v1), none, none, none, none, none] [] σ (none, σ')) {σ : SS} (h : f_X3_settle_85 K7 v0 v1 v3 v5 v6 σ = some (r, σ')) : WM (d + 1) X Y b mi_X3_settle 85 [some (vR 17 v0), some (vI v1), none, some (vI v3), none, some (vI v5), some (vI v6)] [] σ (none, σ') := by
  rw [f_X3_settle_85] at h
  refine r_aload_n (pc' := 86) d_X3_settle_85 rfl rfl rfl ?_
  refine r_get (v := vR 19 _) (pc' := 89) fl_X3_15 d_X3_settle_86 rfl rfl (fun g => Or.inl ⟨rfl, g.2⟩) rfl ?_
  refine r_aload_n (pc' := 90) d_X3_settle_89 rfl rfl rfl ?_
  refine r_get (v := vI _) (pc' := 93) fl_X3_54 d_X3_settle_90 rfl rfl (fun _ => trivial) rfl ?_
  refine r_iload (pc' := 95) d_X3_settle_93 rfl rfl ?_
  refine l_iastore (pc' := 96) d_X3_settle_95 rfl (fun _ => rfl) (by decide) (by decide) (fun _ => rfl) rfl h (fun s1 h => ?_)
  refine r_aload_n (pc' := 97) d_X3_settle_96 rfl rfl rfl ?_
  refine r_get (v := vR 20 _) (pc' := 100) fl_X3_18 d_X3_settle_97 rfl rfl (fun g => Or.inl ⟨rfl, g.2⟩) rfl ?_
  refine r_aload_n (pc' := 101) d_X3_settle_100 rfl rfl rfl ?_
  refine r_get (v := vI _) (pc' := 104) fl_X3_54 d_X3_settle_101 rfl rfl (fun _ => trivial) rfl ?_
  refine r_iload (pc' := 106) d_X3_settle_104 rfl rfl ?_
  refine l_iastore (pc' := 107) d_X3_settle_106 rfl (fun _ => rfl) (by decide) (by decide) (fun _ => rfl) rfl h (fun s2 h => ?_)
  refine r_aload_n (pc' := 108) d_X3_settle_107 rfl rfl rfl ?_
  refine r_get (v := vR 21 _) (pc' := 111) fl_X3_21 d_X3_settle_108 rfl rfl (fun g => Or.inl ⟨rfl, g.2⟩) rfl ?_
  refine r_aload_n (pc' := 112) d_X3_settle_111 rfl rfl rfl ?_
  refine r_get (v := vI _) (pc' := 115) fl_X3_54 d_X3_settle_112 rfl rfl (fun _ => trivial) rfl ?_
  refine r_iload_n (pc' := 116) d_X3_settle_115 rfl rfl rfl ?_
  refine l_iastore (pc' := 117) d_X3_settle_116 rfl (fun _ => rfl) (by decide) (by decide) (fun _ => rfl) rfl h (fun s3 h => ?_)
  refine r_aload_n (pc' := 118) d_X3_settle_117 rfl rfl rfl ?_
  refine r_dup (pc' := 119) d_X3_settle_118 rfl rfl ?_
  refine r_get (v := vI _) (pc' := 122) fl_X3_54 d_X3_settle_119 rfl rfl (fun _ => trivial) rfl ?_
  refine r_iconst (pc' := 123) d_X3_settle_122 ci_1 rfl ?_
  refine r_iadd (pc' := 124) d_X3_settle_123 rfl ?_
  refine l_put (k := 4) (pc' := 127) fl_X3_54 fw_3_4 rfl rfl d_X3_settle_124 rfl (by decide) (by decide) rfl rfl h (fun s4 h => ?_)
  exact WM.drop [3, 5, 6] rfl (t_X3_settle_127 hK7 h)
def f_X3_settle_7 : Nat → Nat → Int32 → SS → Option (Unit × SS)
  | 0, _, _, _ => none
  | n + 1, v0, v1, σ => if (8 : Int32) ≤ v1 then (some ((), σ)) else (chk (inr (((v1 + (8 : Int32)) - (1 : Int32)) - ((v1 + (8 : Int32)) - (1 : Int32)) / (8 : Int32) * (8 : Int32)) 8) (lt_ (sfn 2 (ix (((v1 + (8 : Int32)) - (1 : Int32)) - ((v1 + (8 : Int32)) - (1 : Int32)) / (8 : Int32) * (8 : Int32)))) (fun x1 => chk (inr v1 8) (lt_ (sfn 2 (ix v1)) (fun x2 => chk (inr ((v1 + (1 : Int32)) - (v1 + (1 : Int32)) / (8 : Int32) * (8 : Int32)) 8) (lt_ (sfn 2 (ix ((v1 + (1 : Int32)) - (v1 + (1 : Int32)) / (8 : Int32) * (8 : Int32)))) (fun x3 => cal (f_X3_crossX v0 x1 x2 σ) (fun x5 s4 => cal (f_X3_crossY v0 x1 x2 s4) (fun x7 s6 => cal (f_X3_crossX v0 x2 x3 s6) (fun x9 s8 => if x5 = x9 then (cal (f_X3_crossY v0 x2 x3 s8) (fun x11 s10 => if x7 = x11 then (f_X3_settle_127 (f_X3_settle_7 n) v0 v1 s10) else (f_X3_settle_85 (f_X3_settle_7 n) v0 v1 x2 x5 x7 s10))) else (f_X3_settle_85 (f_X3_settle_7 n) v0 v1 x2 x5 x7 s8)))))))))))
set_option maxRecDepth 20000 in
theorem t_X3_settle_7 {d : Nat} {X : MX} {Y : MY} {b : Nat × Nat} {r : Unit} {σ' : SS} : ∀ (n : Nat) (v0 : Nat) (v1 : Int32) (σ : SS), f_X3_settle_7 n v0 v1 σ = some (r, σ') → WM (d + 1) X Y b mi_X3_settle 7 [some (vR 17 v0), some (vI v1), none, none, none, none, none] [] σ (none, σ') := by
  intro n
  induction n with
  | zero => intro _ _ σ h; cases h
  | succ n ih =>
    intro v0 v1 σ h
    rw [f_X3_settle_7] at h
    refine r_iload_n (pc' := 8) d_X3_settle_7 rfl rfl rfl ?_
    refine r_bipush (pc' := 10) d_X3_settle_8 cb_8 rfl ?_
    refine r_icmp_ge (pcT := 133) (pc' := 13) d_X3_settle_10 rfl rfl h (fun _ h => ?_) (fun _ h => ?_)
    · exact r_vret d_X3_settle_133 rfl h
    · refine r_getstaticN (k := 2) (pc' := 16) st_X3_103 d_X3_settle_13 (by decide) rfl ?_
      refine r_iload_n (pc' := 17) d_X3_settle_16 rfl rfl rfl ?_
      refine r_bipush (pc' := 19) d_X3_settle_17 cb_8 rfl ?_
      refine r_iadd (pc' := 20) d_X3_settle_19 rfl ?_
      refine r_iconst (pc' := 21) d_X3_settle_20 ci_1 rfl ?_
      refine r_isub (pc' := 22) d_X3_settle_21 rfl ?_
      refine r_bipush (pc' := 24) d_X3_settle_22 cb_8 rfl ?_
      refine r_irem (pc' := 25) d_X3_settle_24 (by decide) rfl ?_
      refine r_saload (k := 2) (pc' := 26) d_X3_settle_25 (by decide) rfl h (fun h => ?_)
      refine l_istore_n (pc' := 27) d_X3_settle_26 rfl rfl rfl rfl h (fun x1 h => ?_)
      refine r_getstaticN (k := 2) (pc' := 30) st_X3_103 d_X3_settle_27 (by decide) rfl ?_
      refine r_iload_n (pc' := 31) d_X3_settle_30 rfl rfl rfl ?_
      refine r_saload (k := 2) (pc' := 32) d_X3_settle_31 (by decide) rfl h (fun h => ?_)
      refine l_istore_n (pc' := 33) d_X3_settle_32 rfl rfl rfl rfl h (fun x2 h => ?_)
      refine r_getstaticN (k := 2) (pc' := 36) st_X3_103 d_X3_settle_33 (by decide) rfl ?_
      refine r_iload_n (pc' := 37) d_X3_settle_36 rfl rfl rfl ?_
      refine r_iconst (pc' := 38) d_X3_settle_37 ci_1 rfl ?_
      refine r_iadd (pc' := 39) d_X3_settle_38 rfl ?_
      refine r_bipush (pc' := 41) d_X3_settle_39 cb_8 rfl ?_
      refine r_irem (pc' := 42) d_X3_settle_41 (by decide) rfl ?_
      refine r_saload (k := 2) (pc' := 43) d_X3_settle_42 (by decide) rfl h (fun h => ?_)
      refine l_istore (pc' := 45) d_X3_settle_43 rfl rfl rfl h (fun x3 h => ?_)
      refine r_aload_n (pc' := 46) d_X3_settle_45 rfl rfl rfl ?_
      refine r_iload_n (pc' := 47) d_X3_settle_46 rfl rfl rfl ?_
      refine r_iload_n (pc' := 48) d_X3_settle_47 rfl rfl rfl ?_
      refine v2_i (mc := mi_X3_crossX) (bc := (0, 0)) (b' := _) (pc' := 51) cw_X3_106 d_X3_settle_48 rfl rfl rfl (Nat.zero_add _).symm (Nat.zero_add _).symm rfl h (fun _ _ e => t_X3_crossX e) (fun x5 s4 h => ?_)
      refine r_istore (pc' := 53) d_X3_settle_51 rfl rfl rfl ?_
      refine r_aload_n (pc' := 54) d_X3_settle_53 rfl rfl rfl ?_
      refine r_iload_n (pc' := 55) d_X3_settle_54 rfl rfl rfl ?_
      refine r_iload_n (pc' := 56) d_X3_settle_55 rfl rfl rfl ?_
      refine v2_i (mc := mi_X3_crossY) (bc := (0, 0)) (b' := _) (pc' := 59) cw_X3_109 d_X3_settle_56 rfl rfl rfl (Nat.zero_add _).symm (Nat.zero_add _).symm rfl h (fun _ _ e => t_X3_crossY e) (fun x7 s6 h => ?_)
      refine r_istore (pc' := 61) d_X3_settle_59 rfl rfl rfl ?_
      refine r_iload (pc' := 63) d_X3_settle_61 rfl rfl ?_
      refine r_aload_n (pc' := 64) d_X3_settle_63 rfl rfl rfl ?_
      refine r_iload_n (pc' := 65) d_X3_settle_64 rfl rfl rfl ?_
      refine r_iload (pc' := 67) d_X3_settle_65 rfl rfl ?_
      refine v2_i (mc := mi_X3_crossX) (bc := (0, 0)) (b' := _) (pc' := 70) cw_X3_106 d_X3_settle_67 rfl rfl rfl (Nat.zero_add _).symm (Nat.zero_add _).symm rfl h (fun _ _ e => t_X3_crossX e) (fun x9 s8 h => ?_)
      refine r_icmp_ne (pcT := 85) (pc' := 73) d_X3_settle_70 rfl rfl h (fun _ h => ?_) (fun _ h => ?_)
      · refine r_iload (pc' := 75) d_X3_settle_73 rfl rfl ?_
        refine r_aload_n (pc' := 76) d_X3_settle_75 rfl rfl rfl ?_
        refine r_iload_n (pc' := 77) d_X3_settle_76 rfl rfl rfl ?_
        refine r_iload (pc' := 79) d_X3_settle_77 rfl rfl ?_
        refine v2_i (mc := mi_X3_crossY) (bc := (0, 0)) (b' := _) (pc' := 82) cw_X3_109 d_X3_settle_79 rfl rfl rfl (Nat.zero_add _).symm (Nat.zero_add _).symm rfl h (fun _ _ e => t_X3_crossY e) (fun x11 s10 h => ?_)
        refine r_icmp_eq (pcT := 127) (pc' := 85) d_X3_settle_82 rfl rfl h (fun _ h => ?_) (fun _ h => ?_)
        · exact WM.drop [2, 3, 4, 5, 6] rfl (t_X3_settle_127 ih h)
        · exact WM.drop [2, 4] rfl (t_X3_settle_85 ih h)
      · exact WM.drop [2, 4] rfl (t_X3_settle_85 ih h)
def f_X3_settle (v0 : Nat) (σ : SS) : Option (Unit × SS) := lt_ (up σ 17 v0 4 (0 : Int32)) (fun s1 => f_X3_settle_7 FU v0 (0 : Int32) s1)
set_option maxRecDepth 20000 in
theorem t_X3_settle {d : Nat} {b : Nat × Nat} {v0 : Nat} {σ : SS} {r : Unit} {σ' : SS} (h : f_X3_settle v0 σ = some (r, σ')) : MM (d + 1) b mi_X3_settle [vR 17 v0] σ (none, σ') := by
  refine MM.of (lv := [some (vR 17 v0), none, none, none, none, none, none]) (by decide +kernel) rfl rfl (fun X Y => ?_)
  rw [f_X3_settle] at h
  refine r_aload_n (pc' := 1) d_X3_settle_0 rfl rfl rfl ?_
  refine r_iconst (pc' := 2) d_X3_settle_1 ci_0 rfl ?_
  refine l_put (k := 4) (pc' := 5) fl_X3_54 fw_3_4 rfl rfl d_X3_settle_2 rfl (by decide) (by decide) rfl rfl h (fun s1 h => ?_)
  refine r_iconst (pc' := 6) d_X3_settle_5 ci_0 rfl ?_
  refine r_istore_n (pc' := 7) d_X3_settle_6 rfl rfl rfl rfl ?_
  exact WM.drop [] rfl (t_X3_settle_7 _ _ _ _ h)
/-! OctagonYard$Octagon.becomeReach([II)V -/
def mi_X3_becomeReach : MI := (yX3_becomeReach, cX3_becomeReach, 3, none)
theorem d_X3_becomeReach_0 : decode mi_X3_becomeReach.2.1 0 = .ok (.aload_n 1, 1) := by decide +kernel
theorem d_X3_becomeReach_1 : decode mi_X3_becomeReach.2.1 1 = .ok (.iload_n 2, 1) := by decide +kernel
theorem d_X3_becomeReach_2 : decode mi_X3_becomeReach.2.1 2 = .ok (.aload_n 0, 1) := by decide +kernel
theorem d_X3_becomeReach_3 : decode mi_X3_becomeReach.2.1 3 = .ok (.getfield 9, 3) := by decide +kernel
theorem d_X3_becomeReach_6 : decode mi_X3_becomeReach.2.1 6 = .ok (.iconst 0, 1) := by decide +kernel
theorem d_X3_becomeReach_7 : decode mi_X3_becomeReach.2.1 7 = .ok (.bipush 8, 2) := by decide +kernel
theorem d_X3_becomeReach_9 : decode mi_X3_becomeReach.2.1 9 = .ok (.invokestatic 34, 3) := by decide +kernel
theorem d_X3_becomeReach_12 : decode mi_X3_becomeReach.2.1 12 = .ok (.aload_n 0, 1) := by decide +kernel
theorem d_X3_becomeReach_13 : decode mi_X3_becomeReach.2.1 13 = .ok (.invokevirtual 31, 3) := by decide +kernel
theorem d_X3_becomeReach_16 : decode mi_X3_becomeReach.2.1 16 = .ok (.return_, 1) := by decide +kernel
theorem cy_X3_34 : CY RX3 34 := by unfold CY; decide +kernel
theorem cw_X3_31 : CV RX3 31 mi_X3_settle 0 := by unfold CV; decide +kernel
def f_X3_becomeReach (v0 : Nat) (v2 : Int32) (σ : SS) : Option (Unit × SS) := chk (¬ v2 < 0 ∧ ¬ (0 : Int32) < 0 ∧ ¬ (8 : Int32) < 0 ∧ ix v2 + ix (8 : Int32) ≤ 64 ∧ ix (0 : Int32) + ix (8 : Int32) ≤ 8) (lt_ (cpy σ 6 0 (ix v2) 18 v0 (ix (0 : Int32)) (ix (8 : Int32))) (fun s1 => cal (f_X3_settle v0 s1) (fun _ s2 => some ((), s2))))
set_option maxRecDepth 20000 in
theorem t_X3_becomeReach {d : Nat} {b : Nat × Nat} {v0 : Nat} {v2 : Int32} {σ : SS} {r : Unit} {σ' : SS} (h : f_X3_becomeReach v0 v2 σ = some (r, σ')) : MM (d + 2) b mi_X3_becomeReach [vR 17 v0, vR 6 0, vI v2] σ (none, σ') := by
  refine MM.of (lv := [some (vR 17 v0), some (vR 6 0), some (vI v2)]) (by decide +kernel) rfl rfl (fun X Y => ?_)
  rw [f_X3_becomeReach] at h
  refine r_aload_n (pc' := 1) d_X3_becomeReach_0 rfl rfl rfl ?_
  refine r_iload_n (pc' := 2) d_X3_becomeReach_1 rfl rfl rfl ?_
  refine r_aload_n (pc' := 3) d_X3_becomeReach_2 rfl rfl rfl ?_
  refine r_get (v := vR 18 _) (pc' := 6) fl_X3_9 d_X3_becomeReach_3 rfl rfl (fun g => Or.inl ⟨rfl, g.2⟩) rfl ?_
  refine r_iconst (pc' := 7) d_X3_becomeReach_6 ci_0 rfl ?_
  refine r_bipush (pc' := 9) d_X3_becomeReach_7 cb_8 rfl ?_
  refine l_copy (pc' := 12) cy_X3_34 d_X3_becomeReach_9 rfl rfl (fun _ _ => rfl) (fun _ _ => rfl) rfl rfl h (fun s1 h => ?_)
  refine r_aload_n (pc' := 13) d_X3_becomeReach_12 rfl rfl rfl ?_
  refine v0_v (mc := mi_X3_settle) (bc := (0, 0)) (b' := _) (pc' := 16) cw_X3_31 d_X3_becomeReach_13 rfl rfl rfl (Nat.zero_add _).symm (Nat.zero_add _).symm rfl h (fun _ _ e => t_X3_settle e) (fun _ s2 h => ?_)
  exact r_vret d_X3_becomeReach_16 rfl h
/-! OctagonYard$Octagon.clearReach()V -/
def mi_X3_clearReach : MI := (yX3_clearReach, cX3_clearReach, 1, none)
theorem d_X3_clearReach_0 : decode mi_X3_clearReach.2.1 0 = .ok (.aload_n 0, 1) := by decide +kernel
theorem d_X3_clearReach_1 : decode mi_X3_clearReach.2.1 1 = .ok (.getfield 9, 3) := by decide +kernel
theorem d_X3_clearReach_4 : decode mi_X3_clearReach.2.1 4 = .ok (.ldc 96, 2) := by decide +kernel
theorem d_X3_clearReach_6 : decode mi_X3_clearReach.2.1 6 = .ok (.invokestatic 97, 3) := by decide +kernel
theorem d_X3_clearReach_9 : decode mi_X3_clearReach.2.1 9 = .ok (.return_, 1) := by decide +kernel
theorem k_X3_96 : Cond.constant RX3 96 (-1000000) ∈ mtbl := by decide +kernel
theorem cw_X3_97 : CT RX3 97 mi_J7_fill_53178 2 := by unfold CT; decide +kernel
def f_X3_clearReach (v0 : Nat) (σ : SS) : Option (Unit × SS) := cal (f_J7_fill_53178 v0 (-1000000 : Int32) σ) (fun _ s1 => some ((), s1))
set_option maxRecDepth 20000 in
theorem t_X3_clearReach {d : Nat} {b : Nat × Nat} {v0 : Nat} {σ : SS} {r : Unit} {σ' : SS} (h : f_X3_clearReach v0 σ = some (r, σ')) : MM (d + 1) b mi_X3_clearReach [vR 17 v0] σ (none, σ') := by
  refine MM.of (lv := [some (vR 17 v0)]) (by decide +kernel) rfl rfl (fun X Y => ?_)
  rw [f_X3_clearReach] at h
  refine r_aload_n (pc' := 1) d_X3_clearReach_0 rfl rfl rfl ?_
  refine r_get (v := vR 18 _) (pc' := 4) fl_X3_9 d_X3_clearReach_1 rfl rfl (fun g => Or.inl ⟨rfl, g.2⟩) rfl ?_
  refine r_ldc (pc' := 6) k_X3_96 d_X3_clearReach_4 rfl ?_
  refine s2_v (mc := mi_J7_fill_53178) (bc := (0, 0)) (b' := _) (pc' := 9) cw_X3_97 d_X3_clearReach_6 rfl (Nat.zero_add _).symm (Nat.zero_add _).symm rfl h (fun _ _ e => t_J7_fill_53178 e) (fun _ s1 h => ?_)
  exact r_vret d_X3_clearReach_9 rfl h
/-! OctagonYard$Octagon.stretch(II)V -/
def mi_X3_stretch : MI := (yX3_stretch, cX3_stretch, 4, none)
theorem d_X3_stretch_0 : decode mi_X3_stretch.2.1 0 = .ok (.iconst 0, 1) := by decide +kernel
theorem d_X3_stretch_1 : decode mi_X3_stretch.2.1 1 = .ok (.istore_n 3, 1) := by decide +kernel
theorem d_X3_stretch_2 : decode mi_X3_stretch.2.1 2 = .ok (.iload_n 3, 1) := by decide +kernel
theorem d_X3_stretch_3 : decode mi_X3_stretch.2.1 3 = .ok (.bipush 8, 2) := by decide +kernel
theorem d_X3_stretch_5 : decode mi_X3_stretch.2.1 5 = .ok (.if_icmp .ge 30, 3) := by decide +kernel
theorem d_X3_stretch_8 : decode mi_X3_stretch.2.1 8 = .ok (.aload_n 0, 1) := by decide +kernel
theorem d_X3_stretch_9 : decode mi_X3_stretch.2.1 9 = .ok (.getfield 9, 3) := by decide +kernel
theorem d_X3_stretch_12 : decode mi_X3_stretch.2.1 12 = .ok (.iload_n 3, 1) := by decide +kernel
theorem d_X3_stretch_13 : decode mi_X3_stretch.2.1 13 = .ok (.aload_n 0, 1) := by decide +kernel
theorem d_X3_stretch_14 : decode mi_X3_stretch.2.1 14 = .ok (.getfield 9, 3) := by decide +kernel
theorem d_X3_stretch_17 : decode mi_X3_stretch.2.1 17 = .ok (.iload_n 3, 1) := by decide +kernel
theorem d_X3_stretch_18 : decode mi_X3_stretch.2.1 18 = .ok (.iaload, 1) := by decide +kernel
theorem d_X3_stretch_19 : decode mi_X3_stretch.2.1 19 = .ok (.iload_n 3, 1) := by decide +kernel
theorem d_X3_stretch_20 : decode mi_X3_stretch.2.1 20 = .ok (.iload_n 1, 1) := by decide +kernel
theorem d_X3_stretch_21 : decode mi_X3_stretch.2.1 21 = .ok (.iload_n 2, 1) := by decide +kernel
theorem d_X3_stretch_22 : decode mi_X3_stretch.2.1 22 = .ok (.invokestatic 44, 3) := by decide +kernel
theorem d_X3_stretch_25 : decode mi_X3_stretch.2.1 25 = .ok (.invokestatic 84, 3) := by decide +kernel
theorem d_X3_stretch_28 : decode mi_X3_stretch.2.1 28 = .ok (.iastore, 1) := by decide +kernel
theorem d_X3_stretch_29 : decode mi_X3_stretch.2.1 29 = .ok (.iinc 3 1, 3) := by decide +kernel
theorem d_X3_stretch_32 : decode mi_X3_stretch.2.1 32 = .ok (.goto (-30), 3) := by decide +kernel
theorem d_X3_stretch_35 : decode mi_X3_stretch.2.1 35 = .ok (.return_, 1) := by decide +kernel
theorem cx_X3_84 : CX RX3 84 Lib.Math.max.name Lib.Math.max.code := by unfold CX; decide +kernel
theorem cw_X3_44 : CN RX3 44 "OctagonYard" mi_X7_measure 3 := by unfold CN; decide +kernel
def f_X3_stretch_2 : Nat → Nat → Int32 → Int32 → Int32 → SS → Option (Unit × SS)
  | 0, _, _, _, _, _ => none
  | n + 1, v0, v1, v2, v3, σ => if (8 : Int32) ≤ v3 then (some ((), σ)) else (chk (inr v3 8) (cal (f_X7_measure v3 v1 v2 σ) (fun x2 s1 => chk (inr v3 8) (lt_ (up s1 18 v0 (ix v3) (if (σ.1 18 v0 (ix v3)) < x2 then x2 else (σ.1 18 v0 (ix v3)))) (fun s3 => lt_ (v3 + (1 : Int32)) (fun x4 => f_X3_stretch_2 n v0 v1 v2 x4 s3))))))
set_option maxRecDepth 20000 in
theorem t_X3_stretch_2 {d : Nat} {X : MX} {Y : MY} {b : Nat × Nat} {r : Unit} {σ' : SS} : ∀ (n : Nat) (v0 : Nat) (v1 : Int32) (v2 : Int32) (v3 : Int32) (σ : SS), f_X3_stretch_2 n v0 v1 v2 v3 σ = some (r, σ') → WM (d + 1) X Y b mi_X3_stretch 2 [some (vR 17 v0), some (vI v1), some (vI v2), some (vI v3)] [] σ (none, σ') := by
  intro n
  induction n with
  | zero => intro _ _ _ _ σ h; cases h
  | succ n ih =>
    intro v0 v1 v2 v3 σ h
    rw [f_X3_stretch_2] at h
    refine r_iload_n (pc' := 3) d_X3_stretch_2 rfl rfl rfl ?_
    refine r_bipush (pc' := 5) d_X3_stretch_3 cb_8 rfl ?_
    refine r_icmp_ge (pcT := 35) (pc' := 8) d_X3_stretch_5 rfl rfl h (fun _ h => ?_) (fun _ h => ?_)
    · exact r_vret d_X3_stretch_35 rfl h
    · refine r_aload_n (pc' := 9) d_X3_stretch_8 rfl rfl rfl ?_
      refine r_get (v := vR 18 _) (pc' := 12) fl_X3_9 d_X3_stretch_9 rfl rfl (fun g => Or.inl ⟨rfl, g.2⟩) rfl ?_
      refine r_iload_n (pc' := 13) d_X3_stretch_12 rfl rfl rfl ?_
      refine r_aload_n (pc' := 14) d_X3_stretch_13 rfl rfl rfl ?_
      refine r_get (v := vR 18 _) (pc' := 17) fl_X3_9 d_X3_stretch_14 rfl rfl (fun g => Or.inl ⟨rfl, g.2⟩) rfl ?_
      refine r_iload_n (pc' := 18) d_X3_stretch_17 rfl rfl rfl ?_
      refine r_iaload (pc' := 19) d_X3_stretch_18 rfl (fun _ => rfl) rfl h (fun h => ?_)
      refine r_iload_n (pc' := 20) d_X3_stretch_19 rfl rfl rfl ?_
      refine r_iload_n (pc' := 21) d_X3_stretch_20 rfl rfl rfl ?_
      refine r_iload_n (pc' := 22) d_X3_stretch_21 rfl rfl rfl ?_
      refine n3_i (mc := mi_X7_measure) (bc := (0, 0)) (b' := _) (pc' := 25) cw_X3_44 d_X3_stretch_22 rfl (Nat.zero_add _).symm (Nat.zero_add _).symm rfl h (fun _ _ e => t_X7_measure e) (fun x2 s1 h => ?_)
      refine r_mmax (pc' := 28) cx_X3_84 d_X3_stretch_25 rfl rfl ?_
      refine l_iastore (pc' := 29) d_X3_stretch_28 rfl (fun _ => rfl) (by decide) (by decide) (fun _ => rfl) rfl h (fun s3 h => ?_)
      refine l_iinc (pc' := 32) d_X3_stretch_29 rfl ci_1 rfl rfl rfl h (fun x4 h => ?_)
      refine r_goto (pc' := 2) d_X3_stretch_32 rfl ?_
      exact WM.drop [] rfl (ih _ _ _ _ _ h)
def f_X3_stretch (v0 : Nat) (v1 : Int32) (v2 : Int32) (σ : SS) : Option (Unit × SS) := f_X3_stretch_2 FU v0 v1 v2 (0 : Int32) σ
set_option maxRecDepth 20000 in
theorem t_X3_stretch {d : Nat} {b : Nat × Nat} {v0 : Nat} {v1 : Int32} {v2 : Int32} {σ : SS} {r : Unit} {σ' : SS} (h : f_X3_stretch v0 v1 v2 σ = some (r, σ')) : MM (d + 1) b mi_X3_stretch [vR 17 v0, vI v1, vI v2] σ (none, σ') := by
  refine MM.of (lv := [some (vR 17 v0), some (vI v1), some (vI v2), none]) (by decide +kernel) rfl rfl (fun X Y => ?_)
  rw [f_X3_stretch] at h
  refine r_iconst (pc' := 1) d_X3_stretch_0 ci_0 rfl ?_
  refine r_istore_n (pc' := 2) d_X3_stretch_1 rfl rfl rfl rfl ?_
  exact WM.drop [] rfl (t_X3_stretch_2 _ _ _ _ _ _ h)
/-! OctagonYard$Octagon.becomeBox(II)V -/
def mi_X3_becomeBox : MI := (yX3_becomeBox, cX3_becomeBox, 3, none)
theorem d_X3_becomeBox_0 : decode mi_X3_becomeBox.2.1 0 = .ok (.aload_n 0, 1) := by decide +kernel
theorem d_X3_becomeBox_1 : decode mi_X3_becomeBox.2.1 1 = .ok (.invokevirtual 24, 3) := by decide +kernel
theorem d_X3_becomeBox_4 : decode mi_X3_becomeBox.2.1 4 = .ok (.aload_n 0, 1) := by decide +kernel
theorem d_X3_becomeBox_5 : decode mi_X3_becomeBox.2.1 5 = .ok (.iconst 0, 1) := by decide +kernel
theorem d_X3_becomeBox_6 : decode mi_X3_becomeBox.2.1 6 = .ok (.iconst 0, 1) := by decide +kernel
theorem d_X3_becomeBox_7 : decode mi_X3_becomeBox.2.1 7 = .ok (.invokevirtual 27, 3) := by decide +kernel
theorem d_X3_becomeBox_10 : decode mi_X3_becomeBox.2.1 10 = .ok (.aload_n 0, 1) := by decide +kernel
theorem d_X3_becomeBox_11 : decode mi_X3_becomeBox.2.1 11 = .ok (.iconst 2, 1) := by decide +kernel
theorem d_X3_becomeBox_12 : decode mi_X3_becomeBox.2.1 12 = .ok (.iload_n 1, 1) := by decide +kernel
theorem d_X3_becomeBox_13 : decode mi_X3_becomeBox.2.1 13 = .ok (.imul, 1) := by decide +kernel
theorem d_X3_becomeBox_14 : decode mi_X3_becomeBox.2.1 14 = .ok (.iconst 0, 1) := by decide +kernel
theorem d_X3_becomeBox_15 : decode mi_X3_becomeBox.2.1 15 = .ok (.invokevirtual 27, 3) := by decide +kernel
theorem d_X3_becomeBox_18 : decode mi_X3_becomeBox.2.1 18 = .ok (.aload_n 0, 1) := by decide +kernel
theorem d_X3_becomeBox_19 : decode mi_X3_becomeBox.2.1 19 = .ok (.iconst 2, 1) := by decide +kernel
theorem d_X3_becomeBox_20 : decode mi_X3_becomeBox.2.1 20 = .ok (.iload_n 1, 1) := by decide +kernel
theorem d_X3_becomeBox_21 : decode mi_X3_becomeBox.2.1 21 = .ok (.imul, 1) := by decide +kernel
theorem d_X3_becomeBox_22 : decode mi_X3_becomeBox.2.1 22 = .ok (.iconst 2, 1) := by decide +kernel
theorem d_X3_becomeBox_23 : decode mi_X3_becomeBox.2.1 23 = .ok (.iload_n 2, 1) := by decide +kernel
theorem d_X3_becomeBox_24 : decode mi_X3_becomeBox.2.1 24 = .ok (.imul, 1) := by decide +kernel
theorem d_X3_becomeBox_25 : decode mi_X3_becomeBox.2.1 25 = .ok (.invokevirtual 27, 3) := by decide +kernel
theorem d_X3_becomeBox_28 : decode mi_X3_becomeBox.2.1 28 = .ok (.aload_n 0, 1) := by decide +kernel
theorem d_X3_becomeBox_29 : decode mi_X3_becomeBox.2.1 29 = .ok (.iconst 0, 1) := by decide +kernel
theorem d_X3_becomeBox_30 : decode mi_X3_becomeBox.2.1 30 = .ok (.iconst 2, 1) := by decide +kernel
theorem d_X3_becomeBox_31 : decode mi_X3_becomeBox.2.1 31 = .ok (.iload_n 2, 1) := by decide +kernel
theorem d_X3_becomeBox_32 : decode mi_X3_becomeBox.2.1 32 = .ok (.imul, 1) := by decide +kernel
theorem d_X3_becomeBox_33 : decode mi_X3_becomeBox.2.1 33 = .ok (.invokevirtual 27, 3) := by decide +kernel
theorem d_X3_becomeBox_36 : decode mi_X3_becomeBox.2.1 36 = .ok (.aload_n 0, 1) := by decide +kernel
theorem d_X3_becomeBox_37 : decode mi_X3_becomeBox.2.1 37 = .ok (.invokevirtual 31, 3) := by decide +kernel
theorem d_X3_becomeBox_40 : decode mi_X3_becomeBox.2.1 40 = .ok (.return_, 1) := by decide +kernel
theorem cw_X3_24 : CV RX3 24 mi_X3_clearReach 0 := by unfold CV; decide +kernel
theorem cw_X3_27 : CV RX3 27 mi_X3_stretch 2 := by unfold CV; decide +kernel
def f_X3_becomeBox (v0 : Nat) (v1 : Int32) (v2 : Int32) (σ : SS) : Option (Unit × SS) := cal (f_X3_clearReach v0 σ) (fun _ s1 => cal (f_X3_stretch v0 (0 : Int32) (0 : Int32) s1) (fun _ s2 => cal (f_X3_stretch v0 ((2 : Int32) * v1) (0 : Int32) s2) (fun _ s3 => cal (f_X3_stretch v0 ((2 : Int32) * v1) ((2 : Int32) * v2) s3) (fun _ s4 => cal (f_X3_stretch v0 (0 : Int32) ((2 : Int32) * v2) s4) (fun _ s5 => cal (f_X3_settle v0 s5) (fun _ s6 => some ((), s6)))))))
set_option maxRecDepth 20000 in
theorem t_X3_becomeBox {d : Nat} {b : Nat × Nat} {v0 : Nat} {v1 : Int32} {v2 : Int32} {σ : SS} {r : Unit} {σ' : SS} (h : f_X3_becomeBox v0 v1 v2 σ = some (r, σ')) : MM (d + 2) b mi_X3_becomeBox [vR 17 v0, vI v1, vI v2] σ (none, σ') := by
  refine MM.of (lv := [some (vR 17 v0), some (vI v1), some (vI v2)]) (by decide +kernel) rfl rfl (fun X Y => ?_)
  rw [f_X3_becomeBox] at h
  refine r_aload_n (pc' := 1) d_X3_becomeBox_0 rfl rfl rfl ?_
  refine v0_v (mc := mi_X3_clearReach) (bc := (0, 0)) (b' := _) (pc' := 4) cw_X3_24 d_X3_becomeBox_1 rfl rfl rfl (Nat.zero_add _).symm (Nat.zero_add _).symm rfl h (fun _ _ e => t_X3_clearReach e) (fun _ s1 h => ?_)
  refine r_aload_n (pc' := 5) d_X3_becomeBox_4 rfl rfl rfl ?_
  refine r_iconst (pc' := 6) d_X3_becomeBox_5 ci_0 rfl ?_
  refine r_iconst (pc' := 7) d_X3_becomeBox_6 ci_0 rfl ?_
  refine v2_v (mc := mi_X3_stretch) (bc := (0, 0)) (b' := _) (pc' := 10) cw_X3_27 d_X3_becomeBox_7 rfl rfl rfl (Nat.zero_add _).symm (Nat.zero_add _).symm rfl h (fun _ _ e => t_X3_stretch e) (fun _ s2 h => ?_)
  refine r_aload_n (pc' := 11) d_X3_becomeBox_10 rfl rfl rfl ?_
  refine r_iconst (pc' := 12) d_X3_becomeBox_11 ci_2 rfl ?_
  refine r_iload_n (pc' := 13) d_X3_becomeBox_12 rfl rfl rfl ?_
  refine r_imul (pc' := 14) d_X3_becomeBox_13 rfl ?_
  refine r_iconst (pc' := 15) d_X3_becomeBox_14 ci_0 rfl ?_
  refine v2_v (mc := mi_X3_stretch) (bc := (0, 0)) (b' := _) (pc' := 18) cw_X3_27 d_X3_becomeBox_15 rfl rfl rfl (Nat.zero_add _).symm (Nat.zero_add _).symm rfl h (fun _ _ e => t_X3_stretch e) (fun _ s3 h => ?_)
  refine r_aload_n (pc' := 19) d_X3_becomeBox_18 rfl rfl rfl ?_
  refine r_iconst (pc' := 20) d_X3_becomeBox_19 ci_2 rfl ?_
  refine r_iload_n (pc' := 21) d_X3_becomeBox_20 rfl rfl rfl ?_
  refine r_imul (pc' := 22) d_X3_becomeBox_21 rfl ?_
  refine r_iconst (pc' := 23) d_X3_becomeBox_22 ci_2 rfl ?_
  refine r_iload_n (pc' := 24) d_X3_becomeBox_23 rfl rfl rfl ?_
  refine r_imul (pc' := 25) d_X3_becomeBox_24 rfl ?_
  refine v2_v (mc := mi_X3_stretch) (bc := (0, 0)) (b' := _) (pc' := 28) cw_X3_27 d_X3_becomeBox_25 rfl rfl rfl (Nat.zero_add _).symm (Nat.zero_add _).symm rfl h (fun _ _ e => t_X3_stretch e) (fun _ s4 h => ?_)
  refine r_aload_n (pc' := 29) d_X3_becomeBox_28 rfl rfl rfl ?_
  refine r_iconst (pc' := 30) d_X3_becomeBox_29 ci_0 rfl ?_
  refine r_iconst (pc' := 31) d_X3_becomeBox_30 ci_2 rfl ?_
  refine r_iload_n (pc' := 32) d_X3_becomeBox_31 rfl rfl rfl ?_
  refine r_imul (pc' := 33) d_X3_becomeBox_32 rfl ?_
  refine v2_v (mc := mi_X3_stretch) (bc := (0, 0)) (b' := _) (pc' := 36) cw_X3_27 d_X3_becomeBox_33 rfl rfl rfl (Nat.zero_add _).symm (Nat.zero_add _).symm rfl h (fun _ _ e => t_X3_stretch e) (fun _ s5 h => ?_)
  refine r_aload_n (pc' := 37) d_X3_becomeBox_36 rfl rfl rfl ?_
  refine v0_v (mc := mi_X3_settle) (bc := (0, 0)) (b' := _) (pc' := 40) cw_X3_31 d_X3_becomeBox_37 rfl rfl rfl (Nat.zero_add _).symm (Nat.zero_add _).symm rfl h (fun _ _ e => t_X3_settle e) (fun _ s6 h => ?_)
  exact r_vret d_X3_becomeBox_40 rfl h
/-! OctagonYard$Octagon.wholeReach(I)I -/
def mi_X3_wholeReach : MI := (yX3_wholeReach, cX3_wholeReach, 2, (some .int))
theorem d_X3_wholeReach_0 : decode mi_X3_wholeReach.2.1 0 = .ok (.aload_n 0, 1) := by decide +kernel
theorem d_X3_wholeReach_1 : decode mi_X3_wholeReach.2.1 1 = .ok (.getfield 9, 3) := by decide +kernel
theorem d_X3_wholeReach_4 : decode mi_X3_wholeReach.2.1 4 = .ok (.iload_n 1, 1) := by decide +kernel
theorem d_X3_wholeReach_5 : decode mi_X3_wholeReach.2.1 5 = .ok (.iaload, 1) := by decide +kernel
theorem d_X3_wholeReach_6 : decode mi_X3_wholeReach.2.1 6 = .ok (.iconst 1, 1) := by decide +kernel
theorem d_X3_wholeReach_7 : decode mi_X3_wholeReach.2.1 7 = .ok (.iadd, 1) := by decide +kernel
theorem d_X3_wholeReach_8 : decode mi_X3_wholeReach.2.1 8 = .ok (.iconst 2, 1) := by decide +kernel
theorem d_X3_wholeReach_9 : decode mi_X3_wholeReach.2.1 9 = .ok (.invokestatic 61, 3) := by decide +kernel
theorem d_X3_wholeReach_12 : decode mi_X3_wholeReach.2.1 12 = .ok (.ireturn, 1) := by decide +kernel
theorem cw_X3_61 : CT RX3 61 mi_J9_floorDiv_7cf53 2 := by unfold CT; decide +kernel
def f_X3_wholeReach (v0 : Nat) (v1 : Int32) (σ : SS) : Option (Int32 × SS) := chk (inr v1 8) (cal (f_J9_floorDiv_7cf53 ((σ.1 18 v0 (ix v1)) + (1 : Int32)) (2 : Int32) σ) (fun x2 s1 => some (x2, s1)))
set_option maxRecDepth 20000 in
theorem t_X3_wholeReach {d : Nat} {b : Nat × Nat} {v0 : Nat} {v1 : Int32} {σ : SS} {r : Int32} {σ' : SS} (h : f_X3_wholeReach v0 v1 σ = some (r, σ')) : MM (d + 1) b mi_X3_wholeReach [vR 17 v0, vI v1] σ (some (vI r), σ') := by
  refine MM.of (lv := [some (vR 17 v0), some (vI v1)]) (by decide +kernel) rfl rfl (fun X Y => ?_)
  rw [f_X3_wholeReach] at h
  refine r_aload_n (pc' := 1) d_X3_wholeReach_0 rfl rfl rfl ?_
  refine r_get (v := vR 18 _) (pc' := 4) fl_X3_9 d_X3_wholeReach_1 rfl rfl (fun g => Or.inl ⟨rfl, g.2⟩) rfl ?_
  refine r_iload_n (pc' := 5) d_X3_wholeReach_4 rfl rfl rfl ?_
  refine r_iaload (pc' := 6) d_X3_wholeReach_5 rfl (fun _ => rfl) rfl h (fun h => ?_)
  refine r_iconst (pc' := 7) d_X3_wholeReach_6 ci_1 rfl ?_
  refine r_iadd (pc' := 8) d_X3_wholeReach_7 rfl ?_
  refine r_iconst (pc' := 9) d_X3_wholeReach_8 ci_2 rfl ?_
  refine s2_i (mc := mi_J9_floorDiv_7cf53) (bc := (0, 0)) (b' := _) (pc' := 12) cw_X3_61 d_X3_wholeReach_9 rfl (Nat.zero_add _).symm (Nat.zero_add _).symm rfl h (fun _ _ e => t_J9_floorDiv_7cf53 e) (fun x2 s1 h => ?_)
  exact r_iret d_X3_wholeReach_12 rfl h
/-! OctagonYard$Octagon.canShift(II)Z -/
def mi_X3_canShift : MI := (yX3_canShift, cX3_canShift, 4, (some .boolean))
theorem d_X3_canShift_0 : decode mi_X3_canShift.2.1 0 = .ok (.iconst 0, 1) := by decide +kernel
theorem d_X3_canShift_1 : decode mi_X3_canShift.2.1 1 = .ok (.istore_n 3, 1) := by decide +kernel
theorem d_X3_canShift_2 : decode mi_X3_canShift.2.1 2 = .ok (.iload_n 3, 1) := by decide +kernel
theorem d_X3_canShift_3 : decode mi_X3_canShift.2.1 3 = .ok (.bipush 8, 2) := by decide +kernel
theorem d_X3_canShift_5 : decode mi_X3_canShift.2.1 5 = .ok (.if_icmp .ge 29, 3) := by decide +kernel
theorem d_X3_canShift_8 : decode mi_X3_canShift.2.1 8 = .ok (.aload_n 0, 1) := by decide +kernel
theorem d_X3_canShift_9 : decode mi_X3_canShift.2.1 9 = .ok (.iload_n 3, 1) := by decide +kernel
theorem d_X3_canShift_10 : decode mi_X3_canShift.2.1 10 = .ok (.invokevirtual 40, 3) := by decide +kernel
theorem d_X3_canShift_13 : decode mi_X3_canShift.2.1 13 = .ok (.iload_n 3, 1) := by decide +kernel
theorem d_X3_canShift_14 : decode mi_X3_canShift.2.1 14 = .ok (.iload_n 1, 1) := by decide +kernel
theorem d_X3_canShift_15 : decode mi_X3_canShift.2.1 15 = .ok (.iload_n 2, 1) := by decide +kernel
theorem d_X3_canShift_16 : decode mi_X3_canShift.2.1 16 = .ok (.invokestatic 44, 3) := by decide +kernel
theorem d_X3_canShift_19 : decode mi_X3_canShift.2.1 19 = .ok (.iadd, 1) := by decide +kernel
theorem d_X3_canShift_20 : decode mi_X3_canShift.2.1 20 = .ok (.sipush 4000, 3) := by decide +kernel
theorem d_X3_canShift_23 : decode mi_X3_canShift.2.1 23 = .ok (.if_icmp .le 5, 3) := by decide +kernel
theorem d_X3_canShift_26 : decode mi_X3_canShift.2.1 26 = .ok (.iconst 0, 1) := by decide +kernel
theorem d_X3_canShift_27 : decode mi_X3_canShift.2.1 27 = .ok (.ireturn, 1) := by decide +kernel
theorem d_X3_canShift_28 : decode mi_X3_canShift.2.1 28 = .ok (.iinc 3 1, 3) := by decide +kernel
theorem d_X3_canShift_31 : decode mi_X3_canShift.2.1 31 = .ok (.goto (-29), 3) := by decide +kernel
theorem d_X3_canShift_34 : decode mi_X3_canShift.2.1 34 = .ok (.iconst 1, 1) := by decide +kernel
theorem d_X3_canShift_35 : decode mi_X3_canShift.2.1 35 = .ok (.ireturn, 1) := by decide +kernel
theorem cs_4000 : (Int16.ofInt (4000)).toInt32 = 4000 := by decide
theorem cw_X3_40 : CV RX3 40 mi_X3_wholeReach 1 := by unfold CV; decide +kernel
def f_X3_canShift_2 : Nat → Nat → Int32 → Int32 → Int32 → SS → Option (Int32 × SS)
  | 0, _, _, _, _, _ => none
  | n + 1, v0, v1, v2, v3, σ => if (8 : Int32) ≤ v3 then (some ((1 : Int32), σ)) else (cal (f_X3_wholeReach v0 v3 σ) (fun x2 s1 => cal (f_X7_measure v3 v1 v2 s1) (fun x4 s3 => if (x2 + x4) ≤ (4000 : Int32) then (lt_ (v3 + (1 : Int32)) (fun x5 => f_X3_canShift_2 n v0 v1 v2 x5 s3)) else (some ((0 : Int32), s3)))))
set_option maxRecDepth 20000 in
theorem t_X3_canShift_2 {d : Nat} {X : MX} {Y : MY} {b : Nat × Nat} {r : Int32} {σ' : SS} : ∀ (n : Nat) (v0 : Nat) (v1 : Int32) (v2 : Int32) (v3 : Int32) (σ : SS), f_X3_canShift_2 n v0 v1 v2 v3 σ = some (r, σ') → WM (d + 2) X Y b mi_X3_canShift 2 [some (vR 17 v0), some (vI v1), some (vI v2), some (vI v3)] [] σ (some (vI r), σ') := by
  intro n
  induction n with
  | zero => intro _ _ _ _ σ h; cases h
  | succ n ih =>
    intro v0 v1 v2 v3 σ h
    rw [f_X3_canShift_2] at h
    refine r_iload_n (pc' := 3) d_X3_canShift_2 rfl rfl rfl ?_
    refine r_bipush (pc' := 5) d_X3_canShift_3 cb_8 rfl ?_
    refine r_icmp_ge (pcT := 34) (pc' := 8) d_X3_canShift_5 rfl rfl h (fun _ h => ?_) (fun _ h => ?_)
    · refine r_iconst (pc' := 35) d_X3_canShift_34 ci_1 rfl ?_
      exact r_zret d_X3_canShift_35 rfl (Or.inr rfl) h
    · refine r_aload_n (pc' := 9) d_X3_canShift_8 rfl rfl rfl ?_
      refine r_iload_n (pc' := 10) d_X3_canShift_9 rfl rfl rfl ?_
      refine v1_i (mc := mi_X3_wholeReach) (bc := (0, 0)) (b' := _) (pc' := 13) cw_X3_40 d_X3_canShift_10 rfl rfl rfl (Nat.zero_add _).symm (Nat.zero_add _).symm rfl h (fun _ _ e => t_X3_wholeReach e) (fun x2 s1 h => ?_)
      refine r_iload_n (pc' := 14) d_X3_canShift_13 rfl rfl rfl ?_
      refine r_iload_n (pc' := 15) d_X3_canShift_14 rfl rfl rfl ?_
      refine r_iload_n (pc' := 16) d_X3_canShift_15 rfl rfl rfl ?_
      refine n3_i (mc := mi_X7_measure) (bc := (0, 0)) (b' := _) (pc' := 19) cw_X3_44 d_X3_canShift_16 rfl (Nat.zero_add _).symm (Nat.zero_add _).symm rfl h (fun _ _ e => t_X7_measure e) (fun x4 s3 h => ?_)
      refine r_iadd (pc' := 20) d_X3_canShift_19 rfl ?_
      refine r_sipush (pc' := 23) d_X3_canShift_20 cs_4000 rfl ?_
      refine r_icmp_le (pcT := 28) (pc' := 26) d_X3_canShift_23 rfl rfl h (fun _ h => ?_) (fun _ h => ?_)
      · refine l_iinc (pc' := 31) d_X3_canShift_28 rfl ci_1 rfl rfl rfl h (fun x5 h => ?_)
        refine r_goto (pc' := 2) d_X3_canShift_31 rfl ?_
        exact WM.drop [] rfl (ih _ _ _ _ _ h)
      · refine r_iconst (pc' := 27) d_X3_canShift_26 ci_0 rfl ?_
        exact r_zret d_X3_canShift_27 rfl (Or.inl rfl) h
def f_X3_canShift (v0 : Nat) (v1 : Int32) (v2 : Int32) (σ : SS) : Option (Int32 × SS) := f_X3_canShift_2 FU v0 v1 v2 (0 : Int32) σ
set_option maxRecDepth 20000 in
theorem t_X3_canShift {d : Nat} {b : Nat × Nat} {v0 : Nat} {v1 : Int32} {v2 : Int32} {σ : SS} {r : Int32} {σ' : SS} (h : f_X3_canShift v0 v1 v2 σ = some (r, σ')) : MM (d + 2) b mi_X3_canShift [vR 17 v0, vI v1, vI v2] σ (some (vI r), σ') := by
  refine MM.of (lv := [some (vR 17 v0), some (vI v1), some (vI v2), none]) (by decide +kernel) rfl rfl (fun X Y => ?_)
  rw [f_X3_canShift] at h
  refine r_iconst (pc' := 1) d_X3_canShift_0 ci_0 rfl ?_
  refine r_istore_n (pc' := 2) d_X3_canShift_1 rfl rfl rfl rfl ?_
  exact WM.drop [] rfl (t_X3_canShift_2 _ _ _ _ _ _ h)
/-! OctagonYard$Octagon.shift(II)V -/
def mi_X3_shift : MI := (yX3_shift, cX3_shift, 4, none)
theorem d_X3_shift_0 : decode mi_X3_shift.2.1 0 = .ok (.iconst 0, 1) := by decide +kernel
theorem d_X3_shift_1 : decode mi_X3_shift.2.1 1 = .ok (.istore_n 3, 1) := by decide +kernel
theorem d_X3_shift_2 : decode mi_X3_shift.2.1 2 = .ok (.iload_n 3, 1) := by decide +kernel
theorem d_X3_shift_3 : decode mi_X3_shift.2.1 3 = .ok (.bipush 8, 2) := by decide +kernel
theorem d_X3_shift_5 : decode mi_X3_shift.2.1 5 = .ok (.if_icmp .ge 26, 3) := by decide +kernel
theorem d_X3_shift_8 : decode mi_X3_shift.2.1 8 = .ok (.aload_n 0, 1) := by decide +kernel
theorem d_X3_shift_9 : decode mi_X3_shift.2.1 9 = .ok (.getfield 9, 3) := by decide +kernel
theorem d_X3_shift_12 : decode mi_X3_shift.2.1 12 = .ok (.iload_n 3, 1) := by decide +kernel
theorem d_X3_shift_13 : decode mi_X3_shift.2.1 13 = .ok (.dup2, 1) := by decide +kernel
theorem d_X3_shift_14 : decode mi_X3_shift.2.1 14 = .ok (.iaload, 1) := by decide +kernel
theorem d_X3_shift_15 : decode mi_X3_shift.2.1 15 = .ok (.iconst 2, 1) := by decide +kernel
theorem d_X3_shift_16 : decode mi_X3_shift.2.1 16 = .ok (.iload_n 3, 1) := by decide +kernel
theorem d_X3_shift_17 : decode mi_X3_shift.2.1 17 = .ok (.iload_n 1, 1) := by decide +kernel
theorem d_X3_shift_18 : decode mi_X3_shift.2.1 18 = .ok (.iload_n 2, 1) := by decide +kernel
theorem d_X3_shift_19 : decode mi_X3_shift.2.1 19 = .ok (.invokestatic 44, 3) := by decide +kernel
theorem d_X3_shift_22 : decode mi_X3_shift.2.1 22 = .ok (.imul, 1) := by decide +kernel
theorem d_X3_shift_23 : decode mi_X3_shift.2.1 23 = .ok (.iadd, 1) := by decide +kernel
theorem d_X3_shift_24 : decode mi_X3_shift.2.1 24 = .ok (.iastore, 1) := by decide +kernel
theorem d_X3_shift_25 : decode mi_X3_shift.2.1 25 = .ok (.iinc 3 1, 3) := by decide +kernel
theorem d_X3_shift_28 : decode mi_X3_shift.2.1 28 = .ok (.goto (-26), 3) := by decide +kernel
theorem d_X3_shift_31 : decode mi_X3_shift.2.1 31 = .ok (.aload_n 0, 1) := by decide +kernel
theorem d_X3_shift_32 : decode mi_X3_shift.2.1 32 = .ok (.invokevirtual 31, 3) := by decide +kernel
theorem d_X3_shift_35 : decode mi_X3_shift.2.1 35 = .ok (.return_, 1) := by decide +kernel
def f_X3_shift_31 (v0 : Nat) (σ : SS) : Option (Unit × SS) := cal (f_X3_settle v0 σ) (fun _ s1 => some ((), s1))
set_option maxRecDepth 20000 in
theorem t_X3_shift_31 {d : Nat} {X : MX} {Y : MY} {b : Nat × Nat} {r : Unit} {σ' : SS} {v0 : Nat} {σ : SS} (h : f_X3_shift_31 v0 σ = some (r, σ')) : WM (d + 2) X Y b mi_X3_shift 31 [some (vR 17 v0), none, none, none] [] σ (none, σ') := by
  rw [f_X3_shift_31] at h
  refine r_aload_n (pc' := 32) d_X3_shift_31 rfl rfl rfl ?_
  refine v0_v (mc := mi_X3_settle) (bc := (0, 0)) (b' := _) (pc' := 35) cw_X3_31 d_X3_shift_32 rfl rfl rfl (Nat.zero_add _).symm (Nat.zero_add _).symm rfl h (fun _ _ e => t_X3_settle e) (fun _ s1 h => ?_)
  exact r_vret d_X3_shift_35 rfl h
def f_X3_shift_2 : Nat → Nat → Int32 → Int32 → Int32 → SS → Option (Unit × SS)
  | 0, _, _, _, _, _ => none
  | n + 1, v0, v1, v2, v3, σ => if (8 : Int32) ≤ v3 then (f_X3_shift_31 v0 σ) else (chk (inr v3 8) (cal (f_X7_measure v3 v1 v2 σ) (fun x2 s1 => chk (inr v3 8) (lt_ (up s1 18 v0 (ix v3) ((σ.1 18 v0 (ix v3)) + ((2 : Int32) * x2))) (fun s3 => lt_ (v3 + (1 : Int32)) (fun x4 => f_X3_shift_2 n v0 v1 v2 x4 s3))))))
set_option maxRecDepth 20000 in
theorem t_X3_shift_2 {d : Nat} {X : MX} {Y : MY} {b : Nat × Nat} {r : Unit} {σ' : SS} : ∀ (n : Nat) (v0 : Nat) (v1 : Int32) (v2 : Int32) (v3 : Int32) (σ : SS), f_X3_shift_2 n v0 v1 v2 v3 σ = some (r, σ') → WM (d + 2) X Y b mi_X3_shift 2 [some (vR 17 v0), some (vI v1), some (vI v2), some (vI v3)] [] σ (none, σ') := by
  intro n
  induction n with
  | zero => intro _ _ _ _ σ h; cases h
  | succ n ih =>
    intro v0 v1 v2 v3 σ h
    rw [f_X3_shift_2] at h
    refine r_iload_n (pc' := 3) d_X3_shift_2 rfl rfl rfl ?_
    refine r_bipush (pc' := 5) d_X3_shift_3 cb_8 rfl ?_
    refine r_icmp_ge (pcT := 31) (pc' := 8) d_X3_shift_5 rfl rfl h (fun _ h => ?_) (fun _ h => ?_)
    · exact WM.drop [1, 2, 3] rfl (t_X3_shift_31 h)
    · refine r_aload_n (pc' := 9) d_X3_shift_8 rfl rfl rfl ?_
      refine r_get (v := vR 18 _) (pc' := 12) fl_X3_9 d_X3_shift_9 rfl rfl (fun g => Or.inl ⟨rfl, g.2⟩) rfl ?_
      refine r_iload_n (pc' := 13) d_X3_shift_12 rfl rfl rfl ?_
      refine r_dup2 (pc' := 14) d_X3_shift_13 rfl rfl rfl ?_
      refine r_iaload (pc' := 15) d_X3_shift_14 rfl (fun _ => rfl) rfl h (fun h => ?_)
      refine r_iconst (pc' := 16) d_X3_shift_15 ci_2 rfl ?_
      refine r_iload_n (pc' := 17) d_X3_shift_16 rfl rfl rfl ?_
      refine r_iload_n (pc' := 18) d_X3_shift_17 rfl rfl rfl ?_
      refine r_iload_n (pc' := 19) d_X3_shift_18 rfl rfl rfl ?_
      refine n3_i (mc := mi_X7_measure) (bc := (0, 0)) (b' := _) (pc' := 22) cw_X3_44 d_X3_shift_19 rfl (Nat.zero_add _).symm (Nat.zero_add _).symm rfl h (fun _ _ e => t_X7_measure e) (fun x2 s1 h => ?_)
      refine r_imul (pc' := 23) d_X3_shift_22 rfl ?_
      refine r_iadd (pc' := 24) d_X3_shift_23 rfl ?_
      refine l_iastore (pc' := 25) d_X3_shift_24 rfl (fun _ => rfl) (by decide) (by decide) (fun _ => rfl) rfl h (fun s3 h => ?_)
      refine l_iinc (pc' := 28) d_X3_shift_25 rfl ci_1 rfl rfl rfl h (fun x4 h => ?_)
      refine r_goto (pc' := 2) d_X3_shift_28 rfl ?_
      exact WM.drop [] rfl (ih _ _ _ _ _ h)
def f_X3_shift (v0 : Nat) (v1 : Int32) (v2 : Int32) (σ : SS) : Option (Unit × SS) := f_X3_shift_2 FU v0 v1 v2 (0 : Int32) σ
set_option maxRecDepth 20000 in
theorem t_X3_shift {d : Nat} {b : Nat × Nat} {v0 : Nat} {v1 : Int32} {v2 : Int32} {σ : SS} {r : Unit} {σ' : SS} (h : f_X3_shift v0 v1 v2 σ = some (r, σ')) : MM (d + 2) b mi_X3_shift [vR 17 v0, vI v1, vI v2] σ (none, σ') := by
  refine MM.of (lv := [some (vR 17 v0), some (vI v1), some (vI v2), none]) (by decide +kernel) rfl rfl (fun X Y => ?_)
  rw [f_X3_shift] at h
  refine r_iconst (pc' := 1) d_X3_shift_0 ci_0 rfl ?_
  refine r_istore_n (pc' := 2) d_X3_shift_1 rfl rfl rfl rfl ?_
  exact WM.drop [] rfl (t_X3_shift_2 _ _ _ _ _ _ h)
/-! OctagonYard$Octagon.swing(I)V -/
def mi_X3_swing : MI := (yX3_swing, cX3_swing, 3, none)
theorem d_X3_swing_0 : decode mi_X3_swing.2.1 0 = .ok (.aload_n 0, 1) := by decide +kernel
theorem d_X3_swing_1 : decode mi_X3_swing.2.1 1 = .ok (.getfield 9, 3) := by decide +kernel
theorem d_X3_swing_4 : decode mi_X3_swing.2.1 4 = .ok (.iconst 0, 1) := by decide +kernel
theorem d_X3_swing_5 : decode mi_X3_swing.2.1 5 = .ok (.aload_n 0, 1) := by decide +kernel
theorem d_X3_swing_6 : decode mi_X3_swing.2.1 6 = .ok (.getfield 15, 3) := by decide +kernel
theorem d_X3_swing_9 : decode mi_X3_swing.2.1 9 = .ok (.iconst 0, 1) := by decide +kernel
theorem d_X3_swing_10 : decode mi_X3_swing.2.1 10 = .ok (.bipush 8, 2) := by decide +kernel
theorem d_X3_swing_12 : decode mi_X3_swing.2.1 12 = .ok (.invokestatic 34, 3) := by decide +kernel
theorem d_X3_swing_15 : decode mi_X3_swing.2.1 15 = .ok (.iconst 0, 1) := by decide +kernel
theorem d_X3_swing_16 : decode mi_X3_swing.2.1 16 = .ok (.istore_n 2, 1) := by decide +kernel
theorem d_X3_swing_17 : decode mi_X3_swing.2.1 17 = .ok (.iload_n 2, 1) := by decide +kernel
theorem d_X3_swing_18 : decode mi_X3_swing.2.1 18 = .ok (.bipush 8, 2) := by decide +kernel
theorem d_X3_swing_20 : decode mi_X3_swing.2.1 20 = .ok (.if_icmp .ge 30, 3) := by decide +kernel
theorem d_X3_swing_23 : decode mi_X3_swing.2.1 23 = .ok (.aload_n 0, 1) := by decide +kernel
theorem d_X3_swing_24 : decode mi_X3_swing.2.1 24 = .ok (.getfield 9, 3) := by decide +kernel
theorem d_X3_swing_27 : decode mi_X3_swing.2.1 27 = .ok (.iload_n 2, 1) := by decide +kernel
theorem d_X3_swing_28 : decode mi_X3_swing.2.1 28 = .ok (.aload_n 0, 1) := by decide +kernel
theorem d_X3_swing_29 : decode mi_X3_swing.2.1 29 = .ok (.getfield 15, 3) := by decide +kernel
theorem d_X3_swing_32 : decode mi_X3_swing.2.1 32 = .ok (.getstatic 48, 3) := by decide +kernel
theorem d_X3_swing_35 : decode mi_X3_swing.2.1 35 = .ok (.iload_n 1, 1) := by decide +kernel
theorem d_X3_swing_36 : decode mi_X3_swing.2.1 36 = .ok (.bipush 8, 2) := by decide +kernel
theorem d_X3_swing_38 : decode mi_X3_swing.2.1 38 = .ok (.imul, 1) := by decide +kernel
theorem d_X3_swing_39 : decode mi_X3_swing.2.1 39 = .ok (.iload_n 2, 1) := by decide +kernel
theorem d_X3_swing_40 : decode mi_X3_swing.2.1 40 = .ok (.iadd, 1) := by decide +kernel
theorem d_X3_swing_41 : decode mi_X3_swing.2.1 41 = .ok (.iaload, 1) := by decide +kernel
theorem d_X3_swing_42 : decode mi_X3_swing.2.1 42 = .ok (.iaload, 1) := by decide +kernel
theorem d_X3_swing_43 : decode mi_X3_swing.2.1 43 = .ok (.iastore, 1) := by decide +kernel
theorem d_X3_swing_44 : decode mi_X3_swing.2.1 44 = .ok (.iinc 2 1, 3) := by decide +kernel
theorem d_X3_swing_47 : decode mi_X3_swing.2.1 47 = .ok (.goto (-30), 3) := by decide +kernel
theorem d_X3_swing_50 : decode mi_X3_swing.2.1 50 = .ok (.aload_n 0, 1) := by decide +kernel
theorem d_X3_swing_51 : decode mi_X3_swing.2.1 51 = .ok (.invokevirtual 31, 3) := by decide +kernel
theorem d_X3_swing_54 : decode mi_X3_swing.2.1 54 = .ok (.return_, 1) := by decide +kernel
theorem st_X3_48 : Cond.fieldLinkNest RX3 48 "OctagonYard" (snm 3) "[I" "OctagonYard" ∈ mtbl := by decide +kernel
def f_X3_swing_50 (v0 : Nat) (σ : SS) : Option (Unit × SS) := cal (f_X3_settle v0 σ) (fun _ s1 => some ((), s1))
set_option maxRecDepth 20000 in
theorem t_X3_swing_50 {d : Nat} {X : MX} {Y : MY} {b : Nat × Nat} {r : Unit} {σ' : SS} {v0 : Nat} {σ : SS} (h : f_X3_swing_50 v0 σ = some (r, σ')) : WM (d + 2) X Y b mi_X3_swing 50 [some (vR 17 v0), none, none] [] σ (none, σ') := by
  rw [f_X3_swing_50] at h
  refine r_aload_n (pc' := 51) d_X3_swing_50 rfl rfl rfl ?_
  refine v0_v (mc := mi_X3_settle) (bc := (0, 0)) (b' := _) (pc' := 54) cw_X3_31 d_X3_swing_51 rfl rfl rfl (Nat.zero_add _).symm (Nat.zero_add _).symm rfl h (fun _ _ e => t_X3_settle e) (fun _ s1 h => ?_)
  exact r_vret d_X3_swing_54 rfl h
def f_X3_swing_17 : Nat → Nat → Int32 → Int32 → SS → Option (Unit × SS)
  | 0, _, _, _, _ => none
  | n + 1, v0, v1, v2, σ => if (8 : Int32) ≤ v2 then (f_X3_swing_50 v0 σ) else (chk (inr ((v1 * (8 : Int32)) + v2) 24) (chk (inr (sfn 3 (ix ((v1 * (8 : Int32)) + v2))) 8) (chk (inr v2 8) (lt_ (up σ 18 v0 (ix v2) (σ.1 19 v0 (ix (sfn 3 (ix ((v1 * (8 : Int32)) + v2)))))) (fun s1 => lt_ (v2 + (1 : Int32)) (fun x2 => f_X3_swing_17 n v0 v1 x2 s1))))))
set_option maxRecDepth 20000 in
theorem t_X3_swing_17 {d : Nat} {X : MX} {Y : MY} {b : Nat × Nat} {r : Unit} {σ' : SS} : ∀ (n : Nat) (v0 : Nat) (v1 : Int32) (v2 : Int32) (σ : SS), f_X3_swing_17 n v0 v1 v2 σ = some (r, σ') → WM (d + 2) X Y b mi_X3_swing 17 [some (vR 17 v0), some (vI v1), some (vI v2)] [] σ (none, σ') := by
  intro n
  induction n with
  | zero => intro _ _ _ σ h; cases h
  | succ n ih =>
    intro v0 v1 v2 σ h
    rw [f_X3_swing_17] at h
    refine r_iload_n (pc' := 18) d_X3_swing_17 rfl rfl rfl ?_
    refine r_bipush (pc' := 20) d_X3_swing_18 cb_8 rfl ?_
    refine r_icmp_ge (pcT := 50) (pc' := 23) d_X3_swing_20 rfl rfl h (fun _ h => ?_) (fun _ h => ?_)
    · exact WM.drop [1, 2] rfl (t_X3_swing_50 h)
    · refine r_aload_n (pc' := 24) d_X3_swing_23 rfl rfl rfl ?_
      refine r_get (v := vR 18 _) (pc' := 27) fl_X3_9 d_X3_swing_24 rfl rfl (fun g => Or.inl ⟨rfl, g.2⟩) rfl ?_
      refine r_iload_n (pc' := 28) d_X3_swing_27 rfl rfl rfl ?_
      refine r_aload_n (pc' := 29) d_X3_swing_28 rfl rfl rfl ?_
      refine r_get (v := vR 19 _) (pc' := 32) fl_X3_15 d_X3_swing_29 rfl rfl (fun g => Or.inl ⟨rfl, g.2⟩) rfl ?_
      refine r_getstaticN (k := 3) (pc' := 35) st_X3_48 d_X3_swing_32 (by decide) rfl ?_
      refine r_iload_n (pc' := 36) d_X3_swing_35 rfl rfl rfl ?_
      refine r_bipush (pc' := 38) d_X3_swing_36 cb_8 rfl ?_
      refine r_imul (pc' := 39) d_X3_swing_38 rfl ?_
      refine r_iload_n (pc' := 40) d_X3_swing_39 rfl rfl rfl ?_
      refine r_iadd (pc' := 41) d_X3_swing_40 rfl ?_
      refine r_saload (k := 3) (pc' := 42) d_X3_swing_41 (by decide) rfl h (fun h => ?_)
      refine r_iaload (pc' := 43) d_X3_swing_42 rfl (fun _ => rfl) rfl h (fun h => ?_)
      refine l_iastore (pc' := 44) d_X3_swing_43 rfl (fun _ => rfl) (by decide) (by decide) (fun _ => rfl) rfl h (fun s1 h => ?_)
      refine l_iinc (pc' := 47) d_X3_swing_44 rfl ci_1 rfl rfl rfl h (fun x2 h => ?_)
      refine r_goto (pc' := 17) d_X3_swing_47 rfl ?_
      exact WM.drop [] rfl (ih _ _ _ _ h)
def f_X3_swing (v0 : Nat) (v1 : Int32) (σ : SS) : Option (Unit × SS) := chk (¬ (0 : Int32) < 0 ∧ ¬ (0 : Int32) < 0 ∧ ¬ (8 : Int32) < 0 ∧ ix (0 : Int32) + ix (8 : Int32) ≤ 8 ∧ ix (0 : Int32) + ix (8 : Int32) ≤ 8) (lt_ (cpy σ 18 v0 (ix (0 : Int32)) 19 v0 (ix (0 : Int32)) (ix (8 : Int32))) (fun s1 => f_X3_swing_17 FU v0 v1 (0 : Int32) s1))
set_option maxRecDepth 20000 in
theorem t_X3_swing {d : Nat} {b : Nat × Nat} {v0 : Nat} {v1 : Int32} {σ : SS} {r : Unit} {σ' : SS} (h : f_X3_swing v0 v1 σ = some (r, σ')) : MM (d + 2) b mi_X3_swing [vR 17 v0, vI v1] σ (none, σ') := by
  refine MM.of (lv := [some (vR 17 v0), some (vI v1), none]) (by decide +kernel) rfl rfl (fun X Y => ?_)
  rw [f_X3_swing] at h
  refine r_aload_n (pc' := 1) d_X3_swing_0 rfl rfl rfl ?_
  refine r_get (v := vR 18 _) (pc' := 4) fl_X3_9 d_X3_swing_1 rfl rfl (fun g => Or.inl ⟨rfl, g.2⟩) rfl ?_
  refine r_iconst (pc' := 5) d_X3_swing_4 ci_0 rfl ?_
  refine r_aload_n (pc' := 6) d_X3_swing_5 rfl rfl rfl ?_
  refine r_get (v := vR 19 _) (pc' := 9) fl_X3_15 d_X3_swing_6 rfl rfl (fun g => Or.inl ⟨rfl, g.2⟩) rfl ?_
  refine r_iconst (pc' := 10) d_X3_swing_9 ci_0 rfl ?_
  refine r_bipush (pc' := 12) d_X3_swing_10 cb_8 rfl ?_
  refine l_copy (pc' := 15) cy_X3_34 d_X3_swing_12 rfl rfl (fun _ _ => rfl) (fun _ _ => rfl) rfl rfl h (fun s1 h => ?_)
  refine r_iconst (pc' := 16) d_X3_swing_15 ci_0 rfl ?_
  refine r_istore_n (pc' := 17) d_X3_swing_16 rfl rfl rfl rfl ?_
  exact WM.drop [] rfl (t_X3_swing_17 _ _ _ _ _ h)
/-! OctagonYard$Octagon.isCrossedBy(II)Z -/
def mi_X3_isCrossedBy : MI := (yX3_isCrossedBy, cX3_isCrossedBy, 3, (some .boolean))
theorem d_X3_isCrossedBy_0 : decode mi_X3_isCrossedBy.2.1 0 = .ok (.iload_n 2, 1) := by decide +kernel
theorem d_X3_isCrossedBy_1 : decode mi_X3_isCrossedBy.2.1 1 = .ok (.aload_n 0, 1) := by decide +kernel
theorem d_X3_isCrossedBy_2 : decode mi_X3_isCrossedBy.2.1 2 = .ok (.getfield 9, 3) := by decide +kernel
theorem d_X3_isCrossedBy_5 : decode mi_X3_isCrossedBy.2.1 5 = .ok (.iload_n 1, 1) := by decide +kernel
theorem d_X3_isCrossedBy_6 : decode mi_X3_isCrossedBy.2.1 6 = .ok (.iaload, 1) := by decide +kernel
theorem d_X3_isCrossedBy_7 : decode mi_X3_isCrossedBy.2.1 7 = .ok (.if_icmp .ge 21, 3) := by decide +kernel
theorem d_X3_isCrossedBy_10 : decode mi_X3_isCrossedBy.2.1 10 = .ok (.iload_n 2, 1) := by decide +kernel
theorem d_X3_isCrossedBy_11 : decode mi_X3_isCrossedBy.2.1 11 = .ok (.ineg, 1) := by decide +kernel
theorem d_X3_isCrossedBy_12 : decode mi_X3_isCrossedBy.2.1 12 = .ok (.aload_n 0, 1) := by decide +kernel
theorem d_X3_isCrossedBy_13 : decode mi_X3_isCrossedBy.2.1 13 = .ok (.getfield 9, 3) := by decide +kernel
theorem d_X3_isCrossedBy_16 : decode mi_X3_isCrossedBy.2.1 16 = .ok (.iload_n 1, 1) := by decide +kernel
theorem d_X3_isCrossedBy_17 : decode mi_X3_isCrossedBy.2.1 17 = .ok (.invokestatic 51, 3) := by decide +kernel
theorem d_X3_isCrossedBy_20 : decode mi_X3_isCrossedBy.2.1 20 = .ok (.iaload, 1) := by decide +kernel
theorem d_X3_isCrossedBy_21 : decode mi_X3_isCrossedBy.2.1 21 = .ok (.if_icmp .ge 7, 3) := by decide +kernel
theorem d_X3_isCrossedBy_24 : decode mi_X3_isCrossedBy.2.1 24 = .ok (.iconst 1, 1) := by decide +kernel
theorem d_X3_isCrossedBy_25 : decode mi_X3_isCrossedBy.2.1 25 = .ok (.goto 4, 3) := by decide +kernel
theorem d_X3_isCrossedBy_28 : decode mi_X3_isCrossedBy.2.1 28 = .ok (.iconst 0, 1) := by decide +kernel
theorem d_X3_isCrossedBy_29 : decode mi_X3_isCrossedBy.2.1 29 = .ok (.ireturn, 1) := by decide +kernel
theorem cw_X3_51 : CN RX3 51 "OctagonYard" mi_X7_opposite 1 := by unfold CN; decide +kernel
def f_X3_isCrossedBy (v0 : Nat) (v1 : Int32) (v2 : Int32) (σ : SS) : Option (Int32 × SS) := chk (inr v1 8) (if (σ.1 18 v0 (ix v1)) ≤ v2 then (some ((0 : Int32), σ)) else (cal (f_X7_opposite v1 σ) (fun x2 s1 => chk (inr x2 8) (if (s1.1 18 v0 (ix x2)) ≤ (-v2) then (some ((0 : Int32), s1)) else (some ((1 : Int32), s1))))))
set_option maxRecDepth 20000 in
theorem t_X3_isCrossedBy {d : Nat} {b : Nat × Nat} {v0 : Nat} {v1 : Int32} {v2 : Int32} {σ : SS} {r : Int32} {σ' : SS} (h : f_X3_isCrossedBy v0 v1 v2 σ = some (r, σ')) : MM (d + 1) b mi_X3_isCrossedBy [vR 17 v0, vI v1, vI v2] σ (some (vI r), σ') := by
  refine MM.of (lv := [some (vR 17 v0), some (vI v1), some (vI v2)]) (by decide +kernel) rfl rfl (fun X Y => ?_)
  rw [f_X3_isCrossedBy] at h
  refine r_iload_n (pc' := 1) d_X3_isCrossedBy_0 rfl rfl rfl ?_
  refine r_aload_n (pc' := 2) d_X3_isCrossedBy_1 rfl rfl rfl ?_
  refine r_get (v := vR 18 _) (pc' := 5) fl_X3_9 d_X3_isCrossedBy_2 rfl rfl (fun g => Or.inl ⟨rfl, g.2⟩) rfl ?_
  refine r_iload_n (pc' := 6) d_X3_isCrossedBy_5 rfl rfl rfl ?_
  refine r_iaload (pc' := 7) d_X3_isCrossedBy_6 rfl (fun _ => rfl) rfl h (fun h => ?_)
  refine r_icmp_ge (pcT := 28) (pc' := 10) d_X3_isCrossedBy_7 rfl rfl h (fun _ h => ?_) (fun _ h => ?_)
  · refine r_iconst (pc' := 29) d_X3_isCrossedBy_28 ci_0 rfl ?_
    exact r_zret d_X3_isCrossedBy_29 rfl (Or.inl rfl) h
  · refine r_iload_n (pc' := 11) d_X3_isCrossedBy_10 rfl rfl rfl ?_
    refine r_ineg (pc' := 12) d_X3_isCrossedBy_11 rfl ?_
    refine r_aload_n (pc' := 13) d_X3_isCrossedBy_12 rfl rfl rfl ?_
    refine r_get (v := vR 18 _) (pc' := 16) fl_X3_9 d_X3_isCrossedBy_13 rfl rfl (fun g => Or.inl ⟨rfl, g.2⟩) rfl ?_
    refine r_iload_n (pc' := 17) d_X3_isCrossedBy_16 rfl rfl rfl ?_
    refine n1_i (mc := mi_X7_opposite) (bc := (0, 0)) (b' := _) (pc' := 20) cw_X3_51 d_X3_isCrossedBy_17 rfl (Nat.zero_add _).symm (Nat.zero_add _).symm rfl h (fun _ _ e => t_X7_opposite e) (fun x2 s1 h => ?_)
    refine r_iaload (pc' := 21) d_X3_isCrossedBy_20 rfl (fun _ => rfl) rfl h (fun h => ?_)
    refine r_icmp_ge (pcT := 28) (pc' := 24) d_X3_isCrossedBy_21 rfl rfl h (fun _ h => ?_) (fun _ h => ?_)
    · refine r_iconst (pc' := 29) d_X3_isCrossedBy_28 ci_0 rfl ?_
      exact r_zret d_X3_isCrossedBy_29 rfl (Or.inl rfl) h
    · refine r_iconst (pc' := 25) d_X3_isCrossedBy_24 ci_1 rfl ?_
      refine r_goto (pc' := 29) d_X3_isCrossedBy_25 rfl ?_
      exact r_zret d_X3_isCrossedBy_29 rfl (Or.inr rfl) h
/-! OctagonYard$Octagon.following(I)I -/
def mi_X3_following : MI := (yX3_following, cX3_following, 2, (some .int))
theorem d_X3_following_0 : decode mi_X3_following.2.1 0 = .ok (.iload_n 1, 1) := by decide +kernel
theorem d_X3_following_1 : decode mi_X3_following.2.1 1 = .ok (.iconst 1, 1) := by decide +kernel
theorem d_X3_following_2 : decode mi_X3_following.2.1 2 = .ok (.iadd, 1) := by decide +kernel
theorem d_X3_following_3 : decode mi_X3_following.2.1 3 = .ok (.aload_n 0, 1) := by decide +kernel
theorem d_X3_following_4 : decode mi_X3_following.2.1 4 = .ok (.getfield 54, 3) := by decide +kernel
theorem d_X3_following_7 : decode mi_X3_following.2.1 7 = .ok (.if_icmp .ge 9, 3) := by decide +kernel
theorem d_X3_following_10 : decode mi_X3_following.2.1 10 = .ok (.iload_n 1, 1) := by decide +kernel
theorem d_X3_following_11 : decode mi_X3_following.2.1 11 = .ok (.iconst 1, 1) := by decide +kernel
theorem d_X3_following_12 : decode mi_X3_following.2.1 12 = .ok (.iadd, 1) := by decide +kernel
theorem d_X3_following_13 : decode mi_X3_following.2.1 13 = .ok (.goto 4, 3) := by decide +kernel
theorem d_X3_following_16 : decode mi_X3_following.2.1 16 = .ok (.iconst 0, 1) := by decide +kernel
theorem d_X3_following_17 : decode mi_X3_following.2.1 17 = .ok (.ireturn, 1) := by decide +kernel
def f_X3_following (v0 : Nat) (v1 : Int32) (σ : SS) : Option (Int32 × SS) := if (σ.1 17 v0 4) ≤ (v1 + (1 : Int32)) then (some ((0 : Int32), σ)) else (some ((v1 + (1 : Int32)), σ))
set_option maxRecDepth 20000 in
theorem t_X3_following {d : Nat} {b : Nat × Nat} {v0 : Nat} {v1 : Int32} {σ : SS} {r : Int32} {σ' : SS} (h : f_X3_following v0 v1 σ = some (r, σ')) : MM d b mi_X3_following [vR 17 v0, vI v1] σ (some (vI r), σ') := by
  refine MM.of (lv := [some (vR 17 v0), some (vI v1)]) (by decide +kernel) rfl rfl (fun X Y => ?_)
  rw [f_X3_following] at h
  refine r_iload_n (pc' := 1) d_X3_following_0 rfl rfl rfl ?_
  refine r_iconst (pc' := 2) d_X3_following_1 ci_1 rfl ?_
  refine r_iadd (pc' := 3) d_X3_following_2 rfl ?_
  refine r_aload_n (pc' := 4) d_X3_following_3 rfl rfl rfl ?_
  refine r_get (v := vI _) (pc' := 7) fl_X3_54 d_X3_following_4 rfl rfl (fun _ => trivial) rfl ?_
  refine r_icmp_ge (pcT := 16) (pc' := 10) d_X3_following_7 rfl rfl h (fun _ h => ?_) (fun _ h => ?_)
  · refine r_iconst (pc' := 17) d_X3_following_16 ci_0 rfl ?_
    exact r_iret d_X3_following_17 rfl h
  · refine r_iload_n (pc' := 11) d_X3_following_10 rfl rfl rfl ?_
    refine r_iconst (pc' := 12) d_X3_following_11 ci_1 rfl ?_
    refine r_iadd (pc' := 13) d_X3_following_12 rfl ?_
    refine r_goto (pc' := 17) d_X3_following_13 rfl ?_
    exact r_iret d_X3_following_17 rfl h
/-! OctagonYard$Octagon.splitAt(IILOctagonYard$Octagon;)V -/
def mi_X3_splitAt : MI := (yX3_splitAt, cX3_splitAt, 10, none)
theorem d_X3_splitAt_0 : decode mi_X3_splitAt.2.1 0 = .ok (.aload_n 0, 1) := by decide +kernel
theorem d_X3_splitAt_1 : decode mi_X3_splitAt.2.1 1 = .ok (.invokevirtual 24, 3) := by decide +kernel
theorem d_X3_splitAt_4 : decode mi_X3_splitAt.2.1 4 = .ok (.aload_n 3, 1) := by decide +kernel
theorem d_X3_splitAt_5 : decode mi_X3_splitAt.2.1 5 = .ok (.invokevirtual 24, 3) := by decide +kernel
theorem d_X3_splitAt_8 : decode mi_X3_splitAt.2.1 8 = .ok (.iconst 0, 1) := by decide +kernel
theorem d_X3_splitAt_9 : decode mi_X3_splitAt.2.1 9 = .ok (.istore 4, 2) := by decide +kernel
theorem d_X3_splitAt_11 : decode mi_X3_splitAt.2.1 11 = .ok (.iload 4, 2) := by decide +kernel
theorem d_X3_splitAt_13 : decode mi_X3_splitAt.2.1 13 = .ok (.aload_n 0, 1) := by decide +kernel
theorem d_X3_splitAt_14 : decode mi_X3_splitAt.2.1 14 = .ok (.getfield 54, 3) := by decide +kernel
theorem d_X3_splitAt_17 : decode mi_X3_splitAt.2.1 17 = .ok (.if_icmp .ge 211, 3) := by decide +kernel
theorem d_X3_splitAt_20 : decode mi_X3_splitAt.2.1 20 = .ok (.aload_n 0, 1) := by decide +kernel
theorem d_X3_splitAt_21 : decode mi_X3_splitAt.2.1 21 = .ok (.iload 4, 2) := by decide +kernel
theorem d_X3_splitAt_23 : decode mi_X3_splitAt.2.1 23 = .ok (.invokevirtual 58, 3) := by decide +kernel
theorem d_X3_splitAt_26 : decode mi_X3_splitAt.2.1 26 = .ok (.istore 5, 2) := by decide +kernel
theorem d_X3_splitAt_28 : decode mi_X3_splitAt.2.1 28 = .ok (.iload_n 1, 1) := by decide +kernel
theorem d_X3_splitAt_29 : decode mi_X3_splitAt.2.1 29 = .ok (.aload_n 0, 1) := by decide +kernel
theorem d_X3_splitAt_30 : decode mi_X3_splitAt.2.1 30 = .ok (.getfield 15, 3) := by decide +kernel
theorem d_X3_splitAt_33 : decode mi_X3_splitAt.2.1 33 = .ok (.iload 4, 2) := by decide +kernel
theorem d_X3_splitAt_35 : decode mi_X3_splitAt.2.1 35 = .ok (.iaload, 1) := by decide +kernel
theorem d_X3_splitAt_36 : decode mi_X3_splitAt.2.1 36 = .ok (.aload_n 0, 1) := by decide +kernel
theorem d_X3_splitAt_37 : decode mi_X3_splitAt.2.1 37 = .ok (.getfield 18, 3) := by decide +kernel
theorem d_X3_splitAt_40 : decode mi_X3_splitAt.2.1 40 = .ok (.iload 4, 2) := by decide +kernel
theorem d_X3_splitAt_42 : decode mi_X3_splitAt.2.1 42 = .ok (.iaload, 1) := by decide +kernel
theorem d_X3_splitAt_43 : decode mi_X3_splitAt.2.1 43 = .ok (.invokestatic 44, 3) := by decide +kernel
theorem d_X3_splitAt_46 : decode mi_X3_splitAt.2.1 46 = .ok (.iload_n 2, 1) := by decide +kernel
theorem d_X3_splitAt_47 : decode mi_X3_splitAt.2.1 47 = .ok (.isub, 1) := by decide +kernel
theorem d_X3_splitAt_48 : decode mi_X3_splitAt.2.1 48 = .ok (.istore 6, 2) := by decide +kernel
theorem d_X3_splitAt_50 : decode mi_X3_splitAt.2.1 50 = .ok (.iload_n 1, 1) := by decide +kernel
theorem d_X3_splitAt_51 : decode mi_X3_splitAt.2.1 51 = .ok (.aload_n 0, 1) := by decide +kernel
theorem d_X3_splitAt_52 : decode mi_X3_splitAt.2.1 52 = .ok (.getfield 15, 3) := by decide +kernel
theorem d_X3_splitAt_55 : decode mi_X3_splitAt.2.1 55 = .ok (.iload 5, 2) := by decide +kernel
theorem d_X3_splitAt_57 : decode mi_X3_splitAt.2.1 57 = .ok (.iaload, 1) := by decide +kernel
theorem d_X3_splitAt_58 : decode mi_X3_splitAt.2.1 58 = .ok (.aload_n 0, 1) := by decide +kernel
theorem d_X3_splitAt_59 : decode mi_X3_splitAt.2.1 59 = .ok (.getfield 18, 3) := by decide +kernel
theorem d_X3_splitAt_62 : decode mi_X3_splitAt.2.1 62 = .ok (.iload 5, 2) := by decide +kernel
theorem d_X3_splitAt_64 : decode mi_X3_splitAt.2.1 64 = .ok (.iaload, 1) := by decide +kernel
theorem d_X3_splitAt_65 : decode mi_X3_splitAt.2.1 65 = .ok (.invokestatic 44, 3) := by decide +kernel
theorem d_X3_splitAt_68 : decode mi_X3_splitAt.2.1 68 = .ok (.iload_n 2, 1) := by decide +kernel
theorem d_X3_splitAt_69 : decode mi_X3_splitAt.2.1 69 = .ok (.isub, 1) := by decide +kernel
theorem d_X3_splitAt_70 : decode mi_X3_splitAt.2.1 70 = .ok (.istore 7, 2) := by decide +kernel
theorem d_X3_splitAt_72 : decode mi_X3_splitAt.2.1 72 = .ok (.iload 6, 2) := by decide +kernel
theorem d_X3_splitAt_74 : decode mi_X3_splitAt.2.1 74 = .ok (.ifCond .gt 21, 3) := by decide +kernel
theorem d_X3_splitAt_77 : decode mi_X3_splitAt.2.1 77 = .ok (.aload_n 0, 1) := by decide +kernel
theorem d_X3_splitAt_78 : decode mi_X3_splitAt.2.1 78 = .ok (.aload_n 0, 1) := by decide +kernel
theorem d_X3_splitAt_79 : decode mi_X3_splitAt.2.1 79 = .ok (.getfield 15, 3) := by decide +kernel
theorem d_X3_splitAt_82 : decode mi_X3_splitAt.2.1 82 = .ok (.iload 4, 2) := by decide +kernel
theorem d_X3_splitAt_84 : decode mi_X3_splitAt.2.1 84 = .ok (.iaload, 1) := by decide +kernel
theorem d_X3_splitAt_85 : decode mi_X3_splitAt.2.1 85 = .ok (.aload_n 0, 1) := by decide +kernel
theorem d_X3_splitAt_86 : decode mi_X3_splitAt.2.1 86 = .ok (.getfield 18, 3) := by decide +kernel
theorem d_X3_splitAt_89 : decode mi_X3_splitAt.2.1 89 = .ok (.iload 4, 2) := by decide +kernel
theorem d_X3_splitAt_91 : decode mi_X3_splitAt.2.1 91 = .ok (.iaload, 1) := by decide +kernel
theorem d_X3_splitAt_92 : decode mi_X3_splitAt.2.1 92 = .ok (.invokevirtual 27, 3) := by decide +kernel
theorem d_X3_splitAt_95 : decode mi_X3_splitAt.2.1 95 = .ok (.iload 6, 2) := by decide +kernel
theorem d_X3_splitAt_97 : decode mi_X3_splitAt.2.1 97 = .ok (.ifCond .lt 21, 3) := by decide +kernel
theorem d_X3_splitAt_100 : decode mi_X3_splitAt.2.1 100 = .ok (.aload_n 3, 1) := by decide +kernel
theorem d_X3_splitAt_101 : decode mi_X3_splitAt.2.1 101 = .ok (.aload_n 0, 1) := by decide +kernel
theorem d_X3_splitAt_102 : decode mi_X3_splitAt.2.1 102 = .ok (.getfield 15, 3) := by decide +kernel
theorem d_X3_splitAt_105 : decode mi_X3_splitAt.2.1 105 = .ok (.iload 4, 2) := by decide +kernel
theorem d_X3_splitAt_107 : decode mi_X3_splitAt.2.1 107 = .ok (.iaload, 1) := by decide +kernel
theorem d_X3_splitAt_108 : decode mi_X3_splitAt.2.1 108 = .ok (.aload_n 0, 1) := by decide +kernel
theorem d_X3_splitAt_109 : decode mi_X3_splitAt.2.1 109 = .ok (.getfield 18, 3) := by decide +kernel
theorem d_X3_splitAt_112 : decode mi_X3_splitAt.2.1 112 = .ok (.iload 4, 2) := by decide +kernel
theorem d_X3_splitAt_114 : decode mi_X3_splitAt.2.1 114 = .ok (.iaload, 1) := by decide +kernel
theorem d_X3_splitAt_115 : decode mi_X3_splitAt.2.1 115 = .ok (.invokevirtual 27, 3) := by decide +kernel
theorem d_X3_splitAt_118 : decode mi_X3_splitAt.2.1 118 = .ok (.iload 6, 2) := by decide +kernel
theorem d_X3_splitAt_120 : decode mi_X3_splitAt.2.1 120 = .ok (.ifCond .ge 8, 3) := by decide +kernel
theorem d_X3_splitAt_123 : decode mi_X3_splitAt.2.1 123 = .ok (.iload 7, 2) := by decide +kernel
theorem d_X3_splitAt_125 : decode mi_X3_splitAt.2.1 125 = .ok (.ifCond .gt 13, 3) := by decide +kernel
theorem d_X3_splitAt_128 : decode mi_X3_splitAt.2.1 128 = .ok (.iload 6, 2) := by decide +kernel
theorem d_X3_splitAt_130 : decode mi_X3_splitAt.2.1 130 = .ok (.ifCond .le 92, 3) := by decide +kernel
theorem d_X3_splitAt_133 : decode mi_X3_splitAt.2.1 133 = .ok (.iload 7, 2) := by decide +kernel
theorem d_X3_splitAt_135 : decode mi_X3_splitAt.2.1 135 = .ok (.ifCond .ge 87, 3) := by decide +kernel
theorem d_X3_splitAt_138 : decode mi_X3_splitAt.2.1 138 = .ok (.aload_n 0, 1) := by decide +kernel
theorem d_X3_splitAt_139 : decode mi_X3_splitAt.2.1 139 = .ok (.getfield 15, 3) := by decide +kernel
theorem d_X3_splitAt_142 : decode mi_X3_splitAt.2.1 142 = .ok (.iload 4, 2) := by decide +kernel
theorem d_X3_splitAt_144 : decode mi_X3_splitAt.2.1 144 = .ok (.iaload, 1) := by decide +kernel
theorem d_X3_splitAt_145 : decode mi_X3_splitAt.2.1 145 = .ok (.aload_n 0, 1) := by decide +kernel
theorem d_X3_splitAt_146 : decode mi_X3_splitAt.2.1 146 = .ok (.getfield 15, 3) := by decide +kernel
theorem d_X3_splitAt_149 : decode mi_X3_splitAt.2.1 149 = .ok (.iload 5, 2) := by decide +kernel
theorem d_X3_splitAt_151 : decode mi_X3_splitAt.2.1 151 = .ok (.iaload, 1) := by decide +kernel
theorem d_X3_splitAt_152 : decode mi_X3_splitAt.2.1 152 = .ok (.aload_n 0, 1) := by decide +kernel
theorem d_X3_splitAt_153 : decode mi_X3_splitAt.2.1 153 = .ok (.getfield 15, 3) := by decide +kernel
theorem d_X3_splitAt_156 : decode mi_X3_splitAt.2.1 156 = .ok (.iload 4, 2) := by decide +kernel
theorem d_X3_splitAt_158 : decode mi_X3_splitAt.2.1 158 = .ok (.iaload, 1) := by decide +kernel
theorem d_X3_splitAt_159 : decode mi_X3_splitAt.2.1 159 = .ok (.isub, 1) := by decide +kernel
theorem d_X3_splitAt_160 : decode mi_X3_splitAt.2.1 160 = .ok (.iload 6, 2) := by decide +kernel
theorem d_X3_splitAt_162 : decode mi_X3_splitAt.2.1 162 = .ok (.imul, 1) := by decide +kernel
theorem d_X3_splitAt_163 : decode mi_X3_splitAt.2.1 163 = .ok (.iload 6, 2) := by decide +kernel
theorem d_X3_splitAt_165 : decode mi_X3_splitAt.2.1 165 = .ok (.iload 7, 2) := by decide +kernel
theorem d_X3_splitAt_167 : decode mi_X3_splitAt.2.1 167 = .ok (.isub, 1) := by decide +kernel
theorem d_X3_splitAt_168 : decode mi_X3_splitAt.2.1 168 = .ok (.idiv, 1) := by decide +kernel
theorem d_X3_splitAt_169 : decode mi_X3_splitAt.2.1 169 = .ok (.iadd, 1) := by decide +kernel
theorem d_X3_splitAt_170 : decode mi_X3_splitAt.2.1 170 = .ok (.istore 8, 2) := by decide +kernel
theorem d_X3_splitAt_172 : decode mi_X3_splitAt.2.1 172 = .ok (.aload_n 0, 1) := by decide +kernel
theorem d_X3_splitAt_173 : decode mi_X3_splitAt.2.1 173 = .ok (.getfield 18, 3) := by decide +kernel
theorem d_X3_splitAt_176 : decode mi_X3_splitAt.2.1 176 = .ok (.iload 4, 2) := by decide +kernel
theorem d_X3_splitAt_178 : decode mi_X3_splitAt.2.1 178 = .ok (.iaload, 1) := by decide +kernel
theorem d_X3_splitAt_179 : decode mi_X3_splitAt.2.1 179 = .ok (.aload_n 0, 1) := by decide +kernel
theorem d_X3_splitAt_180 : decode mi_X3_splitAt.2.1 180 = .ok (.getfield 18, 3) := by decide +kernel
theorem d_X3_splitAt_183 : decode mi_X3_splitAt.2.1 183 = .ok (.iload 5, 2) := by decide +kernel
theorem d_X3_splitAt_185 : decode mi_X3_splitAt.2.1 185 = .ok (.iaload, 1) := by decide +kernel
theorem d_X3_splitAt_186 : decode mi_X3_splitAt.2.1 186 = .ok (.aload_n 0, 1) := by decide +kernel
theorem d_X3_splitAt_187 : decode mi_X3_splitAt.2.1 187 = .ok (.getfield 18, 3) := by decide +kernel
theorem d_X3_splitAt_190 : decode mi_X3_splitAt.2.1 190 = .ok (.iload 4, 2) := by decide +kernel
theorem d_X3_splitAt_192 : decode mi_X3_splitAt.2.1 192 = .ok (.iaload, 1) := by decide +kernel
theorem d_X3_splitAt_193 : decode mi_X3_splitAt.2.1 193 = .ok (.isub, 1) := by decide +kernel
theorem d_X3_splitAt_194 : decode mi_X3_splitAt.2.1 194 = .ok (.iload 6, 2) := by decide +kernel
theorem d_X3_splitAt_196 : decode mi_X3_splitAt.2.1 196 = .ok (.imul, 1) := by decide +kernel
theorem d_X3_splitAt_197 : decode mi_X3_splitAt.2.1 197 = .ok (.iload 6, 2) := by decide +kernel
theorem d_X3_splitAt_199 : decode mi_X3_splitAt.2.1 199 = .ok (.iload 7, 2) := by decide +kernel
theorem d_X3_splitAt_201 : decode mi_X3_splitAt.2.1 201 = .ok (.isub, 1) := by decide +kernel
theorem d_X3_splitAt_202 : decode mi_X3_splitAt.2.1 202 = .ok (.idiv, 1) := by decide +kernel
theorem d_X3_splitAt_203 : decode mi_X3_splitAt.2.1 203 = .ok (.iadd, 1) := by decide +kernel
theorem d_X3_splitAt_204 : decode mi_X3_splitAt.2.1 204 = .ok (.istore 9, 2) := by decide +kernel
theorem d_X3_splitAt_206 : decode mi_X3_splitAt.2.1 206 = .ok (.aload_n 0, 1) := by decide +kernel
theorem d_X3_splitAt_207 : decode mi_X3_splitAt.2.1 207 = .ok (.iload 8, 2) := by decide +kernel
theorem d_X3_splitAt_209 : decode mi_X3_splitAt.2.1 209 = .ok (.iload 9, 2) := by decide +kernel
theorem d_X3_splitAt_211 : decode mi_X3_splitAt.2.1 211 = .ok (.invokevirtual 27, 3) := by decide +kernel
theorem d_X3_splitAt_214 : decode mi_X3_splitAt.2.1 214 = .ok (.aload_n 3, 1) := by decide +kernel
theorem d_X3_splitAt_215 : decode mi_X3_splitAt.2.1 215 = .ok (.iload 8, 2) := by decide +kernel
theorem d_X3_splitAt_217 : decode mi_X3_splitAt.2.1 217 = .ok (.iload 9, 2) := by decide +kernel
theorem d_X3_splitAt_219 : decode mi_X3_splitAt.2.1 219 = .ok (.invokevirtual 27, 3) := by decide +kernel
theorem d_X3_splitAt_222 : decode mi_X3_splitAt.2.1 222 = .ok (.iinc 4 1, 3) := by decide +kernel
theorem d_X3_splitAt_225 : decode mi_X3_splitAt.2.1 225 = .ok (.goto (-214), 3) := by decide +kernel
theorem d_X3_splitAt_228 : decode mi_X3_splitAt.2.1 228 = .ok (.aload_n 0, 1) := by decide +kernel
theorem d_X3_splitAt_229 : decode mi_X3_splitAt.2.1 229 = .ok (.invokevirtual 31, 3) := by decide +kernel
theorem d_X3_splitAt_232 : decode mi_X3_splitAt.2.1 232 = .ok (.aload_n 3, 1) := by decide +kernel
theorem d_X3_splitAt_233 : decode mi_X3_splitAt.2.1 233 = .ok (.invokevirtual 31, 3) := by decide +kernel
theorem d_X3_splitAt_236 : decode mi_X3_splitAt.2.1 236 = .ok (.return_, 1) := by decide +kernel
theorem cw_X3_58 : CV RX3 58 mi_X3_following 1 := by unfold CV; decide +kernel
def f_X3_splitAt_228 (v0 : Nat) (v3 : Nat) (σ : SS) : Option (Unit × SS) := cal (f_X3_settle v0 σ) (fun _ s1 => cal (f_X3_settle v3 s1) (fun _ s2 => some ((), s2)))
set_option maxRecDepth 20000 in
theorem t_X3_splitAt_228 {d : Nat} {X : MX} {Y : MY} {b : Nat × Nat} {r : Unit} {σ' : SS} {v0 : Nat} {v3 : Nat} {σ : SS} (h : f_X3_splitAt_228 v0 v3 σ = some (r, σ')) : WM (d + 2) X Y b mi_X3_splitAt 228 [some (vR 17 v0), none, none, some (vR 17 v3), none, none, none, none, none, none] [] σ (none, σ') := by
  rw [f_X3_splitAt_228] at h
  refine r_aload_n (pc' := 229) d_X3_splitAt_228 rfl rfl rfl ?_
  refine v0_v (mc := mi_X3_settle) (bc := (0, 0)) (b' := _) (pc' := 232) cw_X3_31 d_X3_splitAt_229 rfl rfl rfl (Nat.zero_add _).symm (Nat.zero_add _).symm rfl h (fun _ _ e => t_X3_settle e) (fun _ s1 h => ?_)
  refine r_aload_n (pc' := 233) d_X3_splitAt_232 rfl rfl rfl ?_
  refine v0_v (mc := mi_X3_settle) (bc := (0, 0)) (b' := _) (pc' := 236) cw_X3_31 d_X3_splitAt_233 rfl rfl rfl (Nat.zero_add _).symm (Nat.zero_add _).symm rfl h (fun _ _ e => t_X3_settle e) (fun _ s2 h => ?_)
  exact r_vret d_X3_splitAt_236 rfl h
def f_X3_splitAt_222 (K11 : Nat → Int32 → Int32 → Nat → Int32 → SS → Option (Unit × SS)) (v0 : Nat) (v1 : Int32) (v2 : Int32) (v3 : Nat) (v4 : Int32) (σ : SS) : Option (Unit × SS) := lt_ (v4 + (1 : Int32)) (fun x1 => K11 v0 v1 v2 v3 x1 σ)
set_option maxRecDepth 20000 in
theorem t_X3_splitAt_222 {d : Nat} {X : MX} {Y : MY} {b : Nat × Nat} {r : Unit} {σ' : SS} {K11 : Nat → Int32 → Int32 → Nat → Int32 → SS → Option (Unit × SS)} {v0 : Nat} {v1 : Int32} {v2 : Int32} {v3 : Nat} {v4 : Int32} (hK11 : ∀ (v0 : Nat) (v1 : Int32) (v2 : Int32) (v3 : Nat) (v4 : Int32) (σ : SS), K11 v0 v1 v2 v3 v4 σ = some (r, σ') → WM (d + 2) X Y b mi_X3_splitAt 11 [some (vR 17 v0), some (vI v1), some (vI v2), some (vR 17 v3), some (vI v4), none, none, none, none, none] [] σ (none, σ')) {σ : SS} (h : f_X3_splitAt_222 K11 v0 v1 v2 v3 v4 σ = some (r, σ')) : WM (d + 2) X Y b mi_X3_splitAt 222 [some (vR 17 v0), some (vI v1), some (vI v2), some (vR 17 v3), some (vI v4), none, none, none, none, none] [] σ (none, σ') := by
  rw [f_X3_splitAt_222] at h
  refine l_iinc (pc' := 225) d_X3_splitAt_222 rfl ci_1 rfl rfl rfl h (fun x1 h => ?_)
  refine r_goto (pc' := 11) d_X3_splitAt_225 rfl ?_
  exact WM.drop [] rfl (hK11 _ _ _ _ _ _ h)
def f_X3_splitAt_138 (K11 : Nat → Int32 → Int32 → Nat → Int32 → SS → Option (Unit × SS)) (v0 : Nat) (v1 : Int32) (v2 : Int32) (v3 : Nat) (v4 : Int32) (v5 : Int32) (v6 : Int32) (v7 : Int32) (σ : SS) : Option (Unit × SS) := chk (inr v4 8) (chk (inr v5 8) (chk (inr v4 8) (chk (¬ (v6 - v7) = 0) (lt_ ((σ.1 19 v0 (ix v4)) + ((((σ.1 19 v0 (ix v5)) - (σ.1 19 v0 (ix v4))) * v6) / (v6 - v7))) (fun x2 => chk (inr v4 8) (chk (inr v5 8) (chk (inr v4 8) (chk (¬ (v6 - v7) = 0) (lt_ ((σ.1 20 v0 (ix v4)) + ((((σ.1 20 v0 (ix v5)) - (σ.1 20 v0 (ix v4))) * v6) / (v6 - v7))) (fun x4 => cal (f_X3_stretch v0 x2 x4 σ) (fun _ s5 => cal (f_X3_stretch v3 x2 x4 s5) (fun _ s6 => f_X3_splitAt_222 K11 v0 v1 v2 v3 v4 s6))))))))))))
set_option maxRecDepth 20000 in
theorem t_X3_splitAt_138 {d : Nat} {X : MX} {Y : MY} {b : Nat × Nat} {r : Unit} {σ' : SS} {K11 : Nat → Int32 → Int32 → Nat → Int32 → SS → Option (Unit × SS)} {v0 : Nat} {v1 : Int32} {v2 : Int32} {v3 : Nat} {v4 : Int32} {v5 : Int32} {v6 : Int32} {v7 : Int32} (hK11 : ∀ (v0 : Nat) (v1 : Int32) (v2 : Int32) (v3 : Nat) (v4 : Int32) (σ : SS), K11 v0 v1 v2 v3 v4 σ = some (r, σ') → WM (d + 2) X Y b mi_X3_splitAt 11 [some (vR 17 v0), some (vI v1), some (vI v2), some (vR 17 v3), some (vI v4), none, none, none, none, none] [] σ (none, σ')) {σ : SS} (h : f_X3_splitAt_138 K11 v0 v1 v2 v3 v4 v5 v6 v7 σ = some (r, σ')) : WM (d + 2) X Y b mi_X3_splitAt 138 [some (vR 17 v0), some (vI v1), some (vI v2), some (vR 17 v3), some (vI v4), some (vI v5), some (vI v6), some (vI v7), none, none] [] σ (none, σ') := by
  rw [f_X3_splitAt_138] at h
  refine r_aload_n (pc' := 139) d_X3_splitAt_138 rfl rfl rfl ?_
  refine r_get (v := vR 19 _) (pc' := 142) fl_X3_15 d_X3_splitAt_139 rfl rfl (fun g => Or.inl ⟨rfl, g.2⟩) rfl ?_
  refine r_iload (pc' := 144) d_X3_splitAt_142 rfl rfl ?_
  refine r_iaload (pc' := 145) d_X3_splitAt_144 rfl (fun _ => rfl) rfl h (fun h => ?_)
  refine r_aload_n (pc' := 146) d_X3_splitAt_145 rfl rfl rfl ?_
  refine r_get (v := vR 19 _) (pc' := 149) fl_X3_15 d_X3_splitAt_146 rfl rfl (fun g => Or.inl ⟨rfl, g.2⟩) rfl ?_
  refine r_iload (pc' := 151) d_X3_splitAt_149 rfl rfl ?_
  refine r_iaload (pc' := 152) d_X3_splitAt_151 rfl (fun _ => rfl) rfl h (fun h => ?_)
  refine r_aload_n (pc' := 153) d_X3_splitAt_152 rfl rfl rfl ?_
  refine r_get (v := vR 19 _) (pc' := 156) fl_X3_15 d_X3_splitAt_153 rfl rfl (fun g => Or.inl ⟨rfl, g.2⟩) rfl ?_
  refine r_iload (pc' := 158) d_X3_splitAt_156 rfl rfl ?_
  refine r_iaload (pc' := 159) d_X3_splitAt_158 rfl (fun _ => rfl) rfl h (fun h => ?_)
  refine r_isub (pc' := 160) d_X3_splitAt_159 rfl ?_
  refine r_iload (pc' := 162) d_X3_splitAt_160 rfl rfl ?_
  refine r_imul (pc' := 163) d_X3_splitAt_162 rfl ?_
  refine r_iload (pc' := 165) d_X3_splitAt_163 rfl rfl ?_
  refine r_iload (pc' := 167) d_X3_splitAt_165 rfl rfl ?_
  refine r_isub (pc' := 168) d_X3_splitAt_167 rfl ?_
  obtain ⟨z1, h⟩ := chk_t h
  refine r_idiv (pc' := 169) d_X3_splitAt_168 z1 rfl ?_
  refine r_iadd (pc' := 170) d_X3_splitAt_169 rfl ?_
  refine l_istore (pc' := 172) d_X3_splitAt_170 rfl rfl rfl h (fun x2 h => ?_)
  refine r_aload_n (pc' := 173) d_X3_splitAt_172 rfl rfl rfl ?_
  refine r_get (v := vR 20 _) (pc' := 176) fl_X3_18 d_X3_splitAt_173 rfl rfl (fun g => Or.inl ⟨rfl, g.2⟩) rfl ?_
  refine r_iload (pc' := 178) d_X3_splitAt_176 rfl rfl ?_
  refine r_iaload (pc' := 179) d_X3_splitAt_178 rfl (fun _ => rfl) rfl h (fun h => ?_)
  refine r_aload_n (pc' := 180) d_X3_splitAt_179 rfl rfl rfl ?_
  refine r_get (v := vR 20 _) (pc' := 183) fl_X3_18 d_X3_splitAt_180 rfl rfl (fun g => Or.inl ⟨rfl, g.2⟩) rfl ?_
  refine r_iload (pc' := 185) d_X3_splitAt_183 rfl rfl ?_
  refine r_iaload (pc' := 186) d_X3_splitAt_185 rfl (fun _ => rfl) rfl h (fun h => ?_)
  refine r_aload_n (pc' := 187) d_X3_splitAt_186 rfl rfl rfl ?_
  refine r_get (v := vR 20 _) (pc' := 190) fl_X3_18 d_X3_splitAt_187 rfl rfl (fun g => Or.inl ⟨rfl, g.2⟩) rfl ?_
  refine r_iload (pc' := 192) d_X3_splitAt_190 rfl rfl ?_
  refine r_iaload (pc' := 193) d_X3_splitAt_192 rfl (fun _ => rfl) rfl h (fun h => ?_)
  refine r_isub (pc' := 194) d_X3_splitAt_193 rfl ?_
  refine r_iload (pc' := 196) d_X3_splitAt_194 rfl rfl ?_
  refine r_imul (pc' := 197) d_X3_splitAt_196 rfl ?_
  refine r_iload (pc' := 199) d_X3_splitAt_197 rfl rfl ?_
  refine r_iload (pc' := 201) d_X3_splitAt_199 rfl rfl ?_
  refine r_isub (pc' := 202) d_X3_splitAt_201 rfl ?_
  obtain ⟨z3, h⟩ := chk_t h
  refine r_idiv (pc' := 203) d_X3_splitAt_202 z3 rfl ?_
  refine r_iadd (pc' := 204) d_X3_splitAt_203 rfl ?_
  refine l_istore (pc' := 206) d_X3_splitAt_204 rfl rfl rfl h (fun x4 h => ?_)
  refine r_aload_n (pc' := 207) d_X3_splitAt_206 rfl rfl rfl ?_
  refine r_iload (pc' := 209) d_X3_splitAt_207 rfl rfl ?_
  refine r_iload (pc' := 211) d_X3_splitAt_209 rfl rfl ?_
  refine v2_v (mc := mi_X3_stretch) (bc := (0, 0)) (b' := _) (pc' := 214) cw_X3_27 d_X3_splitAt_211 rfl rfl rfl (Nat.zero_add _).symm (Nat.zero_add _).symm rfl h (fun _ _ e => t_X3_stretch e) (fun _ s5 h => ?_)
  refine r_aload_n (pc' := 215) d_X3_splitAt_214 rfl rfl rfl ?_
  refine r_iload (pc' := 217) d_X3_splitAt_215 rfl rfl ?_
  refine r_iload (pc' := 219) d_X3_splitAt_217 rfl rfl ?_
  refine v2_v (mc := mi_X3_stretch) (bc := (0, 0)) (b' := _) (pc' := 222) cw_X3_27 d_X3_splitAt_219 rfl rfl rfl (Nat.zero_add _).symm (Nat.zero_add _).symm rfl h (fun _ _ e => t_X3_stretch e) (fun _ s6 h => ?_)
  exact WM.drop [5, 6, 7, 8, 9] rfl (t_X3_splitAt_222 hK11 h)
def f_X3_splitAt_128 (K11 : Nat → Int32 → Int32 → Nat → Int32 → SS → Option (Unit × SS)) (v0 : Nat) (v1 : Int32) (v2 : Int32) (v3 : Nat) (v4 : Int32) (v5 : Int32) (v6 : Int32) (v7 : Int32) (σ : SS) : Option (Unit × SS) := if v6 ≤ 0 then (f_X3_splitAt_222 K11 v0 v1 v2 v3 v4 σ) else (if 0 ≤ v7 then (f_X3_splitAt_222 K11 v0 v1 v2 v3 v4 σ) else (f_X3_splitAt_138 K11 v0 v1 v2 v3 v4 v5 v6 v7 σ))
set_option maxRecDepth 20000 in
theorem t_X3_splitAt_128 {d : Nat} {X : MX} {Y : MY} {b : Nat × Nat} {r : Unit} {σ' : SS} {K11 : Nat → Int32 → Int32 → Nat → Int32 → SS → Option (Unit × SS)} {v0 : Nat} {v1 : Int32} {v2 : Int32} {v3 : Nat} {v4 : Int32} {v5 : Int32} {v6 : Int32} {v7 : Int32} (hK11 : ∀ (v0 : Nat) (v1 : Int32) (v2 : Int32) (v3 : Nat) (v4 : Int32) (σ : SS), K11 v0 v1 v2 v3 v4 σ = some (r, σ') → WM (d + 2) X Y b mi_X3_splitAt 11 [some (vR 17 v0), some (vI v1), some (vI v2), some (vR 17 v3), some (vI v4), none, none, none, none, none] [] σ (none, σ')) {σ : SS} (h : f_X3_splitAt_128 K11 v0 v1 v2 v3 v4 v5 v6 v7 σ = some (r, σ')) : WM (d + 2) X Y b mi_X3_splitAt 128 [some (vR 17 v0), some (vI v1), some (vI v2), some (vR 17 v3), some (vI v4), some (vI v5), some (vI v6), some (vI v7), none, none] [] σ (none, σ') := by
  rw [f_X3_splitAt_128] at h
  refine r_iload (pc' := 130) d_X3_splitAt_128 rfl rfl ?_
  refine r_if_le (pcT := 222) (pc' := 133) d_X3_splitAt_130 rfl rfl h (fun _ h => ?_) (fun _ h => ?_)
  · exact WM.drop [5, 6, 7] rfl (t_X3_splitAt_222 hK11 h)
  · refine r_iload (pc' := 135) d_X3_splitAt_133 rfl rfl ?_
    refine r_if_ge (pcT := 222) (pc' := 138) d_X3_splitAt_135 rfl rfl h (fun _ h => ?_) (fun _ h => ?_)
    · exact WM.drop [5, 6, 7] rfl (t_X3_splitAt_222 hK11 h)
    · exact WM.drop [] rfl (t_X3_splitAt_138 hK11 h)
def f_X3_splitAt_118 (K11 : Nat → Int32 → Int32 → Nat → Int32 → SS → Option (Unit × SS)) (v0 : Nat) (v1 : Int32) (v2 : Int32) (v3 : Nat) (v4 : Int32) (v5 : Int32) (v6 : Int32) (v7 : Int32) (σ : SS) : Option (Unit × SS) := if 0 ≤ v6 then (f_X3_splitAt_128 K11 v0 v1 v2 v3 v4 v5 v6 v7 σ) else (if 0 < v7 then (f_X3_splitAt_138 K11 v0 v1 v2 v3 v4 v5 v6 v7 σ) else (f_X3_splitAt_128 K11 v0 v1 v2 v3 v4 v5 v6 v7 σ))
set_option maxRecDepth 20000 in
theorem t_X3_splitAt_118 {d : Nat} {X : MX} {Y : MY} {b : Nat × Nat} {r : Unit} {σ' : SS} {K11 : Nat → Int32 → Int32 → Nat → Int32 → SS → Option (Unit × SS)} {v0 : Nat} {v1 : Int32} {v2 : Int32} {v3 : Nat} {v4 : Int32} {v5 : Int32} {v6 : Int32} {v7 : Int32} (hK11 : ∀ (v0 : Nat) (v1 : Int32) (v2 : Int32) (v3 : Nat) (v4 : Int32) (σ : SS), K11 v0 v1 v2 v3 v4 σ = some (r, σ') → WM (d + 2) X Y b mi_X3_splitAt 11 [some (vR 17 v0), some (vI v1), some (vI v2), some (vR 17 v3), some (vI v4), none, none, none, none, none] [] σ (none, σ')) {σ : SS} (h : f_X3_splitAt_118 K11 v0 v1 v2 v3 v4 v5 v6 v7 σ = some (r, σ')) : WM (d + 2) X Y b mi_X3_splitAt 118 [some (vR 17 v0), some (vI v1), some (vI v2), some (vR 17 v3), some (vI v4), some (vI v5), some (vI v6), some (vI v7), none, none] [] σ (none, σ') := by
  rw [f_X3_splitAt_118] at h
  refine r_iload (pc' := 120) d_X3_splitAt_118 rfl rfl ?_
  refine r_if_ge (pcT := 128) (pc' := 123) d_X3_splitAt_120 rfl rfl h (fun _ h => ?_) (fun _ h => ?_)
  · exact WM.drop [] rfl (t_X3_splitAt_128 hK11 h)
  · refine r_iload (pc' := 125) d_X3_splitAt_123 rfl rfl ?_
    refine r_if_gt (pcT := 138) (pc' := 128) d_X3_splitAt_125 rfl rfl h (fun _ h => ?_) (fun _ h => ?_)
    · exact WM.drop [] rfl (t_X3_splitAt_138 hK11 h)
    · exact WM.drop [] rfl (t_X3_splitAt_128 hK11 h)
def f_X3_splitAt_95 (K11 : Nat → Int32 → Int32 → Nat → Int32 → SS → Option (Unit × SS)) (v0 : Nat) (v1 : Int32) (v2 : Int32) (v3 : Nat) (v4 : Int32) (v5 : Int32) (v6 : Int32) (v7 : Int32) (σ : SS) : Option (Unit × SS) := if v6 < 0 then (f_X3_splitAt_118 K11 v0 v1 v2 v3 v4 v5 v6 v7 σ) else (chk (inr v4 8) (chk (inr v4 8) (cal (f_X3_stretch v3 (σ.1 19 v0 (ix v4)) (σ.1 20 v0 (ix v4)) σ) (fun _ s1 => f_X3_splitAt_118 K11 v0 v1 v2 v3 v4 v5 v6 v7 s1))))
set_option maxRecDepth 20000 in
theorem t_X3_splitAt_95 {d : Nat} {X : MX} {Y : MY} {b : Nat × Nat} {r : Unit} {σ' : SS} {K11 : Nat → Int32 → Int32 → Nat → Int32 → SS → Option (Unit × SS)} {v0 : Nat} {v1 : Int32} {v2 : Int32} {v3 : Nat} {v4 : Int32} {v5 : Int32} {v6 : Int32} {v7 : Int32} (hK11 : ∀ (v0 : Nat) (v1 : Int32) (v2 : Int32) (v3 : Nat) (v4 : Int32) (σ : SS), K11 v0 v1 v2 v3 v4 σ = some (r, σ') → WM (d + 2) X Y b mi_X3_splitAt 11 [some (vR 17 v0), some (vI v1), some (vI v2), some (vR 17 v3), some (vI v4), none, none, none, none, none] [] σ (none, σ')) {σ : SS} (h : f_X3_splitAt_95 K11 v0 v1 v2 v3 v4 v5 v6 v7 σ = some (r, σ')) : WM (d + 2) X Y b mi_X3_splitAt 95 [some (vR 17 v0), some (vI v1), some (vI v2), some (vR 17 v3), some (vI v4), some (vI v5), some (vI v6), some (vI v7), none, none] [] σ (none, σ') := by
  rw [f_X3_splitAt_95] at h
  refine r_iload (pc' := 97) d_X3_splitAt_95 rfl rfl ?_
  refine r_if_lt (pcT := 118) (pc' := 100) d_X3_splitAt_97 rfl rfl h (fun _ h => ?_) (fun _ h => ?_)
  · exact WM.drop [] rfl (t_X3_splitAt_118 hK11 h)
  · refine r_aload_n (pc' := 101) d_X3_splitAt_100 rfl rfl rfl ?_
    refine r_aload_n (pc' := 102) d_X3_splitAt_101 rfl rfl rfl ?_
    refine r_get (v := vR 19 _) (pc' := 105) fl_X3_15 d_X3_splitAt_102 rfl rfl (fun g => Or.inl ⟨rfl, g.2⟩) rfl ?_
    refine r_iload (pc' := 107) d_X3_splitAt_105 rfl rfl ?_
    refine r_iaload (pc' := 108) d_X3_splitAt_107 rfl (fun _ => rfl) rfl h (fun h => ?_)
    refine r_aload_n (pc' := 109) d_X3_splitAt_108 rfl rfl rfl ?_
    refine r_get (v := vR 20 _) (pc' := 112) fl_X3_18 d_X3_splitAt_109 rfl rfl (fun g => Or.inl ⟨rfl, g.2⟩) rfl ?_
    refine r_iload (pc' := 114) d_X3_splitAt_112 rfl rfl ?_
    refine r_iaload (pc' := 115) d_X3_splitAt_114 rfl (fun _ => rfl) rfl h (fun h => ?_)
    refine v2_v (mc := mi_X3_stretch) (bc := (0, 0)) (b' := _) (pc' := 118) cw_X3_27 d_X3_splitAt_115 rfl rfl rfl (Nat.zero_add _).symm (Nat.zero_add _).symm rfl h (fun _ _ e => t_X3_stretch e) (fun _ s1 h => ?_)
    exact WM.drop [] rfl (t_X3_splitAt_118 hK11 h)
def f_X3_splitAt_11 : Nat → Nat → Int32 → Int32 → Nat → Int32 → SS → Option (Unit × SS)
  | 0, _, _, _, _, _, _ => none
  | n + 1, v0, v1, v2, v3, v4, σ => if (σ.1 17 v0 4) ≤ v4 then (f_X3_splitAt_228 v0 v3 σ) else (cal (f_X3_following v0 v4 σ) (fun x2 s1 => chk (inr v4 8) (chk (inr v4 8) (cal (f_X7_measure v1 (s1.1 19 v0 (ix v4)) (s1.1 20 v0 (ix v4)) s1) (fun x4 s3 => lt_ (x4 - v2) (fun x5 => chk (inr x2 8) (chk (inr x2 8) (cal (f_X7_measure v1 (s3.1 19 v0 (ix x2)) (s3.1 20 v0 (ix x2)) s3) (fun x7 s6 => lt_ (x7 - v2) (fun x8 => if 0 < x5 then (f_X3_splitAt_95 (f_X3_splitAt_11 n) v0 v1 v2 v3 v4 x2 x5 x8 s6) else (chk (inr v4 8) (chk (inr v4 8) (cal (f_X3_stretch v0 (s6.1 19 v0 (ix v4)) (s6.1 20 v0 (ix v4)) s6) (fun _ s9 => f_X3_splitAt_95 (f_X3_splitAt_11 n) v0 v1 v2 v3 v4 x2 x5 x8 s9))))))))))))))
set_option maxRecDepth 20000 in
theorem t_X3_splitAt_11 {d : Nat} {X : MX} {Y : MY} {b : Nat × Nat} {r : Unit} {σ' : SS} : ∀ (n : Nat) (v0 : Nat) (v1 : Int32) (v2 : Int32) (v3 : Nat) (v4 : Int32) (σ : SS), f_X3_splitAt_11 n v0 v1 v2 v3 v4 σ = some (r, σ') → WM (d + 2) X Y b mi_X3_splitAt 11 [some (vR 17 v0), some (vI v1), some (vI v2), some (vR 17 v3), some (vI v4), none, none, none, none, none] [] σ (none, σ') := by
  intro n
  induction n with
  | zero => intro _ _ _ _ _ σ h; cases h
  | succ n ih =>
    intro v0 v1 v2 v3 v4 σ h
    rw [f_X3_splitAt_11] at h
    refine r_iload (pc' := 13) d_X3_splitAt_11 rfl rfl ?_
    refine r_aload_n (pc' := 14) d_X3_splitAt_13 rfl rfl rfl ?_
    refine r_get (v := vI _) (pc' := 17) fl_X3_54 d_X3_splitAt_14 rfl rfl (fun _ => trivial) rfl ?_
    refine r_icmp_ge (pcT := 228) (pc' := 20) d_X3_splitAt_17 rfl rfl h (fun _ h => ?_) (fun _ h => ?_)
    · exact WM.drop [1, 2, 4] rfl (t_X3_splitAt_228 h)
    · refine r_aload_n (pc' := 21) d_X3_splitAt_20 rfl rfl rfl ?_
      refine r_iload (pc' := 23) d_X3_splitAt_21 rfl rfl ?_
      refine v1_i (mc := mi_X3_following) (bc := (0, 0)) (b' := _) (pc' := 26) cw_X3_58 d_X3_splitAt_23 rfl rfl rfl (Nat.zero_add _).symm (Nat.zero_add _).symm rfl h (fun _ _ e => t_X3_following e) (fun x2 s1 h => ?_)
      refine r_istore (pc' := 28) d_X3_splitAt_26 rfl rfl rfl ?_
      refine r_iload_n (pc' := 29) d_X3_splitAt_28 rfl rfl rfl ?_
      refine r_aload_n (pc' := 30) d_X3_splitAt_29 rfl rfl rfl ?_
      refine r_get (v := vR 19 _) (pc' := 33) fl_X3_15 d_X3_splitAt_30 rfl rfl (fun g => Or.inl ⟨rfl, g.2⟩) rfl ?_
      refine r_iload (pc' := 35) d_X3_splitAt_33 rfl rfl ?_
      refine r_iaload (pc' := 36) d_X3_splitAt_35 rfl (fun _ => rfl) rfl h (fun h => ?_)
      refine r_aload_n (pc' := 37) d_X3_splitAt_36 rfl rfl rfl ?_
      refine r_get (v := vR 20 _) (pc' := 40) fl_X3_18 d_X3_splitAt_37 rfl rfl (fun g => Or.inl ⟨rfl, g.2⟩) rfl ?_
      refine r_iload (pc' := 42) d_X3_splitAt_40 rfl rfl ?_
      refine r_iaload (pc' := 43) d_X3_splitAt_42 rfl (fun _ => rfl) rfl h (fun h => ?_)
      refine n3_i (mc := mi_X7_measure) (bc := (0, 0)) (b' := _) (pc' := 46) cw_X3_44 d_X3_splitAt_43 rfl (Nat.zero_add _).symm (Nat.zero_add _).symm rfl h (fun _ _ e => t_X7_measure e) (fun x4 s3 h => ?_)
      refine r_iload_n (pc' := 47) d_X3_splitAt_46 rfl rfl rfl ?_
      refine r_isub (pc' := 48) d_X3_splitAt_47 rfl ?_
      refine l_istore (pc' := 50) d_X3_splitAt_48 rfl rfl rfl h (fun x5 h => ?_)
      refine r_iload_n (pc' := 51) d_X3_splitAt_50 rfl rfl rfl ?_
      refine r_aload_n (pc' := 52) d_X3_splitAt_51 rfl rfl rfl ?_
      refine r_get (v := vR 19 _) (pc' := 55) fl_X3_15 d_X3_splitAt_52 rfl rfl (fun g => Or.inl ⟨rfl, g.2⟩) rfl ?_
      refine r_iload (pc' := 57) d_X3_splitAt_55 rfl rfl ?_
      refine r_iaload (pc' := 58) d_X3_splitAt_57 rfl (fun _ => rfl) rfl h (fun h => ?_)
      refine r_aload_n (pc' := 59) d_X3_splitAt_58 rfl rfl rfl ?_
      refine r_get (v := vR 20 _) (pc' := 62) fl_X3_18 d_X3_splitAt_59 rfl rfl (fun g => Or.inl ⟨rfl, g.2⟩) rfl ?_
      refine r_iload (pc' := 64) d_X3_splitAt_62 rfl rfl ?_
      refine r_iaload (pc' := 65) d_X3_splitAt_64 rfl (fun _ => rfl) rfl h (fun h => ?_)
      refine n3_i (mc := mi_X7_measure) (bc := (0, 0)) (b' := _) (pc' := 68) cw_X3_44 d_X3_splitAt_65 rfl (Nat.zero_add _).symm (Nat.zero_add _).symm rfl h (fun _ _ e => t_X7_measure e) (fun x7 s6 h => ?_)
      refine r_iload_n (pc' := 69) d_X3_splitAt_68 rfl rfl rfl ?_
      refine r_isub (pc' := 70) d_X3_splitAt_69 rfl ?_
      refine l_istore (pc' := 72) d_X3_splitAt_70 rfl rfl rfl h (fun x8 h => ?_)
      refine r_iload (pc' := 74) d_X3_splitAt_72 rfl rfl ?_
      refine r_if_gt (pcT := 95) (pc' := 77) d_X3_splitAt_74 rfl rfl h (fun _ h => ?_) (fun _ h => ?_)
      · exact WM.drop [] rfl (t_X3_splitAt_95 ih h)
      · refine r_aload_n (pc' := 78) d_X3_splitAt_77 rfl rfl rfl ?_
        refine r_aload_n (pc' := 79) d_X3_splitAt_78 rfl rfl rfl ?_
        refine r_get (v := vR 19 _) (pc' := 82) fl_X3_15 d_X3_splitAt_79 rfl rfl (fun g => Or.inl ⟨rfl, g.2⟩) rfl ?_
        refine r_iload (pc' := 84) d_X3_splitAt_82 rfl rfl ?_
        refine r_iaload (pc' := 85) d_X3_splitAt_84 rfl (fun _ => rfl) rfl h (fun h => ?_)
        refine r_aload_n (pc' := 86) d_X3_splitAt_85 rfl rfl rfl ?_
        refine r_get (v := vR 20 _) (pc' := 89) fl_X3_18 d_X3_splitAt_86 rfl rfl (fun g => Or.inl ⟨rfl, g.2⟩) rfl ?_
        refine r_iload (pc' := 91) d_X3_splitAt_89 rfl rfl ?_
        refine r_iaload (pc' := 92) d_X3_splitAt_91 rfl (fun _ => rfl) rfl h (fun h => ?_)
        refine v2_v (mc := mi_X3_stretch) (bc := (0, 0)) (b' := _) (pc' := 95) cw_X3_27 d_X3_splitAt_92 rfl rfl rfl (Nat.zero_add _).symm (Nat.zero_add _).symm rfl h (fun _ _ e => t_X3_stretch e) (fun _ s9 h => ?_)
        exact WM.drop [] rfl (t_X3_splitAt_95 ih h)
def f_X3_splitAt (v0 : Nat) (v1 : Int32) (v2 : Int32) (v3 : Nat) (σ : SS) : Option (Unit × SS) := cal (f_X3_clearReach v0 σ) (fun _ s1 => cal (f_X3_clearReach v3 s1) (fun _ s2 => f_X3_splitAt_11 FU v0 v1 v2 v3 (0 : Int32) s2))
set_option maxRecDepth 20000 in
theorem t_X3_splitAt {d : Nat} {b : Nat × Nat} {v0 : Nat} {v1 : Int32} {v2 : Int32} {v3 : Nat} {σ : SS} {r : Unit} {σ' : SS} (h : f_X3_splitAt v0 v1 v2 v3 σ = some (r, σ')) : MM (d + 2) b mi_X3_splitAt [vR 17 v0, vI v1, vI v2, vR 17 v3] σ (none, σ') := by
  refine MM.of (lv := [some (vR 17 v0), some (vI v1), some (vI v2), some (vR 17 v3), none, none, none, none, none, none]) (by decide +kernel) rfl rfl (fun X Y => ?_)
  rw [f_X3_splitAt] at h
  refine r_aload_n (pc' := 1) d_X3_splitAt_0 rfl rfl rfl ?_
  refine v0_v (mc := mi_X3_clearReach) (bc := (0, 0)) (b' := _) (pc' := 4) cw_X3_24 d_X3_splitAt_1 rfl rfl rfl (Nat.zero_add _).symm (Nat.zero_add _).symm rfl h (fun _ _ e => t_X3_clearReach e) (fun _ s1 h => ?_)
  refine r_aload_n (pc' := 5) d_X3_splitAt_4 rfl rfl rfl ?_
  refine v0_v (mc := mi_X3_clearReach) (bc := (0, 0)) (b' := _) (pc' := 8) cw_X3_24 d_X3_splitAt_5 rfl rfl rfl (Nat.zero_add _).symm (Nat.zero_add _).symm rfl h (fun _ _ e => t_X3_clearReach e) (fun _ s2 h => ?_)
  refine r_iconst (pc' := 9) d_X3_splitAt_8 ci_0 rfl ?_
  refine r_istore (pc' := 11) d_X3_splitAt_9 rfl rfl rfl ?_
  exact WM.drop [] rfl (t_X3_splitAt_11 _ _ _ _ _ _ _ h)
/-! OctagonYard$Octagon.slantedSides()I -/
def mi_X3_slantedSides : MI := (yX3_slantedSides, cX3_slantedSides, 3, (some .int))
theorem d_X3_slantedSides_0 : decode mi_X3_slantedSides.2.1 0 = .ok (.iconst 0, 1) := by decide +kernel
theorem d_X3_slantedSides_1 : decode mi_X3_slantedSides.2.1 1 = .ok (.istore_n 1, 1) := by decide +kernel
theorem d_X3_slantedSides_2 : decode mi_X3_slantedSides.2.1 2 = .ok (.iconst 0, 1) := by decide +kernel
theorem d_X3_slantedSides_3 : decode mi_X3_slantedSides.2.1 3 = .ok (.istore_n 2, 1) := by decide +kernel
theorem d_X3_slantedSides_4 : decode mi_X3_slantedSides.2.1 4 = .ok (.iload_n 2, 1) := by decide +kernel
theorem d_X3_slantedSides_5 : decode mi_X3_slantedSides.2.1 5 = .ok (.aload_n 0, 1) := by decide +kernel
theorem d_X3_slantedSides_6 : decode mi_X3_slantedSides.2.1 6 = .ok (.getfield 54, 3) := by decide +kernel
theorem d_X3_slantedSides_9 : decode mi_X3_slantedSides.2.1 9 = .ok (.if_icmp .ge 24, 3) := by decide +kernel
theorem d_X3_slantedSides_12 : decode mi_X3_slantedSides.2.1 12 = .ok (.aload_n 0, 1) := by decide +kernel
theorem d_X3_slantedSides_13 : decode mi_X3_slantedSides.2.1 13 = .ok (.getfield 21, 3) := by decide +kernel
theorem d_X3_slantedSides_16 : decode mi_X3_slantedSides.2.1 16 = .ok (.iload_n 2, 1) := by decide +kernel
theorem d_X3_slantedSides_17 : decode mi_X3_slantedSides.2.1 17 = .ok (.iaload, 1) := by decide +kernel
theorem d_X3_slantedSides_18 : decode mi_X3_slantedSides.2.1 18 = .ok (.iconst 4, 1) := by decide +kernel
theorem d_X3_slantedSides_19 : decode mi_X3_slantedSides.2.1 19 = .ok (.irem, 1) := by decide +kernel
theorem d_X3_slantedSides_20 : decode mi_X3_slantedSides.2.1 20 = .ok (.iconst 2, 1) := by decide +kernel
theorem d_X3_slantedSides_21 : decode mi_X3_slantedSides.2.1 21 = .ok (.if_icmp .lt 6, 3) := by decide +kernel
theorem d_X3_slantedSides_24 : decode mi_X3_slantedSides.2.1 24 = .ok (.iinc 1 1, 3) := by decide +kernel
theorem d_X3_slantedSides_27 : decode mi_X3_slantedSides.2.1 27 = .ok (.iinc 2 1, 3) := by decide +kernel
theorem d_X3_slantedSides_30 : decode mi_X3_slantedSides.2.1 30 = .ok (.goto (-26), 3) := by decide +kernel
theorem d_X3_slantedSides_33 : decode mi_X3_slantedSides.2.1 33 = .ok (.iload_n 1, 1) := by decide +kernel
theorem d_X3_slantedSides_34 : decode mi_X3_slantedSides.2.1 34 = .ok (.ireturn, 1) := by decide +kernel
def f_X3_slantedSides_27 (K4 : Nat → Int32 → Int32 → SS → Option (Int32 × SS)) (v0 : Nat) (v1 : Int32) (v2 : Int32) (σ : SS) : Option (Int32 × SS) := lt_ (v2 + (1 : Int32)) (fun x1 => K4 v0 v1 x1 σ)
set_option maxRecDepth 20000 in
theorem t_X3_slantedSides_27 {d : Nat} {X : MX} {Y : MY} {b : Nat × Nat} {r : Int32} {σ' : SS} {K4 : Nat → Int32 → Int32 → SS → Option (Int32 × SS)} {v0 : Nat} {v1 : Int32} {v2 : Int32} (hK4 : ∀ (v0 : Nat) (v1 : Int32) (v2 : Int32) (σ : SS), K4 v0 v1 v2 σ = some (r, σ') → WM d X Y b mi_X3_slantedSides 4 [some (vR 17 v0), some (vI v1), some (vI v2)] [] σ (some (vI r), σ')) {σ : SS} (h : f_X3_slantedSides_27 K4 v0 v1 v2 σ = some (r, σ')) : WM d X Y b mi_X3_slantedSides 27 [some (vR 17 v0), some (vI v1), some (vI v2)] [] σ (some (vI r), σ') := by
  rw [f_X3_slantedSides_27] at h
  refine l_iinc (pc' := 30) d_X3_slantedSides_27 rfl ci_1 rfl rfl rfl h (fun x1 h => ?_)
  refine r_goto (pc' := 4) d_X3_slantedSides_30 rfl ?_
  exact WM.drop [] rfl (hK4 _ _ _ _ h)
def f_X3_slantedSides_4 : Nat → Nat → Int32 → Int32 → SS → Option (Int32 × SS)
  | 0, _, _, _, _ => none
  | n + 1, v0, v1, v2, σ => if (σ.1 17 v0 4) ≤ v2 then (some (v1, σ)) else (chk (inr v2 8) (if ((σ.1 21 v0 (ix v2)) - (σ.1 21 v0 (ix v2)) / (4 : Int32) * (4 : Int32)) < (2 : Int32) then (f_X3_slantedSides_27 (f_X3_slantedSides_4 n) v0 v1 v2 σ) else (lt_ (v1 + (1 : Int32)) (fun x1 => f_X3_slantedSides_27 (f_X3_slantedSides_4 n) v0 x1 v2 σ))))
set_option maxRecDepth 20000 in
theorem t_X3_slantedSides_4 {d : Nat} {X : MX} {Y : MY} {b : Nat × Nat} {r : Int32} {σ' : SS} : ∀ (n : Nat) (v0 : Nat) (v1 : Int32) (v2 : Int32) (σ : SS), f_X3_slantedSides_4 n v0 v1 v2 σ = some (r, σ') → WM d X Y b mi_X3_slantedSides 4 [some (vR 17 v0), some (vI v1), some (vI v2)] [] σ (some (vI r), σ') := by
  intro n
  induction n with
  | zero => intro _ _ _ σ h; cases h
  | succ n ih =>
    intro v0 v1 v2 σ h
    rw [f_X3_slantedSides_4] at h
    refine r_iload_n (pc' := 5) d_X3_slantedSides_4 rfl rfl rfl ?_
    refine r_aload_n (pc' := 6) d_X3_slantedSides_5 rfl rfl rfl ?_
    refine r_get (v := vI _) (pc' := 9) fl_X3_54 d_X3_slantedSides_6 rfl rfl (fun _ => trivial) rfl ?_
    refine r_icmp_ge (pcT := 33) (pc' := 12) d_X3_slantedSides_9 rfl rfl h (fun _ h => ?_) (fun _ h => ?_)
    · refine r_iload_n (pc' := 34) d_X3_slantedSides_33 rfl rfl rfl ?_
      exact r_iret d_X3_slantedSides_34 rfl h
    · refine r_aload_n (pc' := 13) d_X3_slantedSides_12 rfl rfl rfl ?_
      refine r_get (v := vR 21 _) (pc' := 16) fl_X3_21 d_X3_slantedSides_13 rfl rfl (fun g => Or.inl ⟨rfl, g.2⟩) rfl ?_
      refine r_iload_n (pc' := 17) d_X3_slantedSides_16 rfl rfl rfl ?_
      refine r_iaload (pc' := 18) d_X3_slantedSides_17 rfl (fun _ => rfl) rfl h (fun h => ?_)
      refine r_iconst (pc' := 19) d_X3_slantedSides_18 ci_4 rfl ?_
      refine r_irem (pc' := 20) d_X3_slantedSides_19 (by decide) rfl ?_
      refine r_iconst (pc' := 21) d_X3_slantedSides_20 ci_2 rfl ?_
      refine r_icmp_lt (pcT := 27) (pc' := 24) d_X3_slantedSides_21 rfl rfl h (fun _ h => ?_) (fun _ h => ?_)
      · exact WM.drop [] rfl (t_X3_slantedSides_27 ih h)
      · refine l_iinc (pc' := 27) d_X3_slantedSides_24 rfl ci_1 rfl rfl rfl h (fun x1 h => ?_)
        exact WM.drop [] rfl (t_X3_slantedSides_27 ih h)
def f_X3_slantedSides (v0 : Nat) (σ : SS) : Option (Int32 × SS) := f_X3_slantedSides_4 FU v0 (0 : Int32) (0 : Int32) σ
set_option maxRecDepth 20000 in
theorem t_X3_slantedSides {d : Nat} {b : Nat × Nat} {v0 : Nat} {σ : SS} {r : Int32} {σ' : SS} (h : f_X3_slantedSides v0 σ = some (r, σ')) : MM d b mi_X3_slantedSides [vR 17 v0] σ (some (vI r), σ') := by
  refine MM.of (lv := [some (vR 17 v0), none, none]) (by decide +kernel) rfl rfl (fun X Y => ?_)
  rw [f_X3_slantedSides] at h
  refine r_iconst (pc' := 1) d_X3_slantedSides_0 ci_0 rfl ?_
  refine r_istore_n (pc' := 2) d_X3_slantedSides_1 rfl rfl rfl rfl ?_
  refine r_iconst (pc' := 3) d_X3_slantedSides_2 ci_0 rfl ?_
  refine r_istore_n (pc' := 4) d_X3_slantedSides_3 rfl rfl rfl rfl ?_
  exact WM.drop [] rfl (t_X3_slantedSides_4 _ _ _ _ _ h)
/-! OctagonYard$Octagon.kindOfFour()I -/
def mi_X3_kindOfFour : MI := (yX3_kindOfFour, cX3_kindOfFour, 2, (some .int))
theorem d_X3_kindOfFour_0 : decode mi_X3_kindOfFour.2.1 0 = .ok (.aload_n 0, 1) := by decide +kernel
theorem d_X3_kindOfFour_1 : decode mi_X3_kindOfFour.2.1 1 = .ok (.invokevirtual 71, 3) := by decide +kernel
theorem d_X3_kindOfFour_4 : decode mi_X3_kindOfFour.2.1 4 = .ok (.ifCond .ne 5, 3) := by decide +kernel
theorem d_X3_kindOfFour_7 : decode mi_X3_kindOfFour.2.1 7 = .ok (.iconst 0, 1) := by decide +kernel
theorem d_X3_kindOfFour_8 : decode mi_X3_kindOfFour.2.1 8 = .ok (.ireturn, 1) := by decide +kernel
theorem d_X3_kindOfFour_9 : decode mi_X3_kindOfFour.2.1 9 = .ok (.aload_n 0, 1) := by decide +kernel
theorem d_X3_kindOfFour_10 : decode mi_X3_kindOfFour.2.1 10 = .ok (.getfield 21, 3) := by decide +kernel
theorem d_X3_kindOfFour_13 : decode mi_X3_kindOfFour.2.1 13 = .ok (.iconst 2, 1) := by decide +kernel
theorem d_X3_kindOfFour_14 : decode mi_X3_kindOfFour.2.1 14 = .ok (.iaload, 1) := by decide +kernel
theorem d_X3_kindOfFour_15 : decode mi_X3_kindOfFour.2.1 15 = .ok (.aload_n 0, 1) := by decide +kernel
theorem d_X3_kindOfFour_16 : decode mi_X3_kindOfFour.2.1 16 = .ok (.getfield 21, 3) := by decide +kernel
theorem d_X3_kindOfFour_19 : decode mi_X3_kindOfFour.2.1 19 = .ok (.iconst 0, 1) := by decide +kernel
theorem d_X3_kindOfFour_20 : decode mi_X3_kindOfFour.2.1 20 = .ok (.iaload, 1) := by decide +kernel
theorem d_X3_kindOfFour_21 : decode mi_X3_kindOfFour.2.1 21 = .ok (.invokestatic 51, 3) := by decide +kernel
theorem d_X3_kindOfFour_24 : decode mi_X3_kindOfFour.2.1 24 = .ok (.if_icmp .ne 25, 3) := by decide +kernel
theorem d_X3_kindOfFour_27 : decode mi_X3_kindOfFour.2.1 27 = .ok (.aload_n 0, 1) := by decide +kernel
theorem d_X3_kindOfFour_28 : decode mi_X3_kindOfFour.2.1 28 = .ok (.getfield 21, 3) := by decide +kernel
theorem d_X3_kindOfFour_31 : decode mi_X3_kindOfFour.2.1 31 = .ok (.iconst 3, 1) := by decide +kernel
theorem d_X3_kindOfFour_32 : decode mi_X3_kindOfFour.2.1 32 = .ok (.iaload, 1) := by decide +kernel
theorem d_X3_kindOfFour_33 : decode mi_X3_kindOfFour.2.1 33 = .ok (.aload_n 0, 1) := by decide +kernel
theorem d_X3_kindOfFour_34 : decode mi_X3_kindOfFour.2.1 34 = .ok (.getfield 21, 3) := by decide +kernel
theorem d_X3_kindOfFour_37 : decode mi_X3_kindOfFour.2.1 37 = .ok (.iconst 1, 1) := by decide +kernel
theorem d_X3_kindOfFour_38 : decode mi_X3_kindOfFour.2.1 38 = .ok (.iaload, 1) := by decide +kernel
theorem d_X3_kindOfFour_39 : decode mi_X3_kindOfFour.2.1 39 = .ok (.invokestatic 51, 3) := by decide +kernel
theorem d_X3_kindOfFour_42 : decode mi_X3_kindOfFour.2.1 42 = .ok (.if_icmp .ne 7, 3) := by decide +kernel
theorem d_X3_kindOfFour_45 : decode mi_X3_kindOfFour.2.1 45 = .ok (.iconst 1, 1) := by decide +kernel
theorem d_X3_kindOfFour_46 : decode mi_X3_kindOfFour.2.1 46 = .ok (.goto 4, 3) := by decide +kernel
theorem d_X3_kindOfFour_49 : decode mi_X3_kindOfFour.2.1 49 = .ok (.iconst 0, 1) := by decide +kernel
theorem d_X3_kindOfFour_50 : decode mi_X3_kindOfFour.2.1 50 = .ok (.istore_n 1, 1) := by decide +kernel
theorem d_X3_kindOfFour_51 : decode mi_X3_kindOfFour.2.1 51 = .ok (.iload_n 1, 1) := by decide +kernel
theorem d_X3_kindOfFour_52 : decode mi_X3_kindOfFour.2.1 52 = .ok (.ifCond .eq 7, 3) := by decide +kernel
theorem d_X3_kindOfFour_55 : decode mi_X3_kindOfFour.2.1 55 = .ok (.iconst 1, 1) := by decide +kernel
theorem d_X3_kindOfFour_56 : decode mi_X3_kindOfFour.2.1 56 = .ok (.goto 4, 3) := by decide +kernel
theorem d_X3_kindOfFour_59 : decode mi_X3_kindOfFour.2.1 59 = .ok (.iconst 3, 1) := by decide +kernel
theorem d_X3_kindOfFour_60 : decode mi_X3_kindOfFour.2.1 60 = .ok (.ireturn, 1) := by decide +kernel
theorem ci_3 : Int32.ofInt (3) = 3 := by decide
theorem cw_X3_71 : CV RX3 71 mi_X3_slantedSides 0 := by unfold CV; decide +kernel
def f_X3_kindOfFour_50 (u0 : Int32) (σ : SS) : Option (Int32 × SS) := if u0 = 0 then (some ((3 : Int32), σ)) else (some ((1 : Int32), σ))
set_option maxRecDepth 20000 in
theorem t_X3_kindOfFour_50 {d : Nat} {X : MX} {Y : MY} {b : Nat × Nat} {r : Int32} {σ' : SS} {u0 : Int32} {σ : SS} (h : f_X3_kindOfFour_50 u0 σ = some (r, σ')) : WM (d + 1) X Y b mi_X3_kindOfFour 50 [none, none] [vI u0] σ (some (vI r), σ') := by
  rw [f_X3_kindOfFour_50] at h
  refine r_istore_n (pc' := 51) d_X3_kindOfFour_50 rfl rfl rfl rfl ?_
  refine r_iload_n (pc' := 52) d_X3_kindOfFour_51 rfl rfl rfl ?_
  refine r_if_eq (pcT := 59) (pc' := 55) d_X3_kindOfFour_52 rfl rfl h (fun _ h => ?_) (fun _ h => ?_)
  · refine r_iconst (pc' := 60) d_X3_kindOfFour_59 ci_3 rfl ?_
    exact r_iret d_X3_kindOfFour_60 rfl h
  · refine r_iconst (pc' := 56) d_X3_kindOfFour_55 ci_1 rfl ?_
    refine r_goto (pc' := 60) d_X3_kindOfFour_56 rfl ?_
    exact r_iret d_X3_kindOfFour_60 rfl h
def f_X3_kindOfFour_49 (σ : SS) : Option (Int32 × SS) := f_X3_kindOfFour_50 (0 : Int32) σ
set_option maxRecDepth 20000 in
theorem t_X3_kindOfFour_49 {d : Nat} {X : MX} {Y : MY} {b : Nat × Nat} {r : Int32} {σ' : SS} {σ : SS} (h : f_X3_kindOfFour_49 σ = some (r, σ')) : WM (d + 1) X Y b mi_X3_kindOfFour 49 [none, none] [] σ (some (vI r), σ') := by
  rw [f_X3_kindOfFour_49] at h
  refine r_iconst (pc' := 50) d_X3_kindOfFour_49 ci_0 rfl ?_
  exact WM.drop [] rfl (t_X3_kindOfFour_50 h)
def f_X3_kindOfFour (v0 : Nat) (σ : SS) : Option (Int32 × SS) := cal (f_X3_slantedSides v0 σ) (fun x2 s1 => if x2 = 0 then (some ((0 : Int32), s1)) else (chk (inr (2 : Int32) 8) (chk (inr (0 : Int32) 8) (cal (f_X7_opposite (s1.1 21 v0 (ix (0 : Int32))) s1) (fun x4 s3 => if (s1.1 21 v0 (ix (2 : Int32))) = x4 then (chk (inr (3 : Int32) 8) (chk (inr (1 : Int32) 8) (cal (f_X7_opposite (s3.1 21 v0 (ix (1 : Int32))) s3) (fun x6 s5 => if (s3.1 21 v0 (ix (3 : Int32))) = x6 then (f_X3_kindOfFour_50 (1 : Int32) s5) else (f_X3_kindOfFour_49  s5))))) else (f_X3_kindOfFour_49  s3))))))
set_option maxRecDepth 20000 in
theorem t_X3_kindOfFour {d : Nat} {b : Nat × Nat} {v0 : Nat} {σ : SS} {r : Int32} {σ' : SS} (h : f_X3_kindOfFour v0 σ = some (r, σ')) : MM (d + 1) b mi_X3_kindOfFour [vR 17 v0] σ (some (vI r), σ') := by
  refine MM.of (lv := [some (vR 17 v0), none]) (by decide +kernel) rfl rfl (fun X Y => ?_)
  rw [f_X3_kindOfFour] at h
  refine r_aload_n (pc' := 1) d_X3_kindOfFour_0 rfl rfl rfl ?_
  refine v0_i (mc := mi_X3_slantedSides) (bc := (0, 0)) (b' := _) (pc' := 4) cw_X3_71 d_X3_kindOfFour_1 rfl rfl rfl (Nat.zero_add _).symm (Nat.zero_add _).symm rfl h (fun _ _ e => t_X3_slantedSides e) (fun x2 s1 h => ?_)
  refine r_if_ne (pcT := 9) (pc' := 7) d_X3_kindOfFour_4 rfl rfl h (fun _ h => ?_) (fun _ h => ?_)
  · refine r_iconst (pc' := 8) d_X3_kindOfFour_7 ci_0 rfl ?_
    exact r_iret d_X3_kindOfFour_8 rfl h
  · refine r_aload_n (pc' := 10) d_X3_kindOfFour_9 rfl rfl rfl ?_
    refine r_get (v := vR 21 _) (pc' := 13) fl_X3_21 d_X3_kindOfFour_10 rfl rfl (fun g => Or.inl ⟨rfl, g.2⟩) rfl ?_
    refine r_iconst (pc' := 14) d_X3_kindOfFour_13 ci_2 rfl ?_
    refine r_iaload (pc' := 15) d_X3_kindOfFour_14 rfl (fun _ => rfl) rfl h (fun h => ?_)
    refine r_aload_n (pc' := 16) d_X3_kindOfFour_15 rfl rfl rfl ?_
    refine r_get (v := vR 21 _) (pc' := 19) fl_X3_21 d_X3_kindOfFour_16 rfl rfl (fun g => Or.inl ⟨rfl, g.2⟩) rfl ?_
    refine r_iconst (pc' := 20) d_X3_kindOfFour_19 ci_0 rfl ?_
    refine r_iaload (pc' := 21) d_X3_kindOfFour_20 rfl (fun _ => rfl) rfl h (fun h => ?_)
    refine n1_i (mc := mi_X7_opposite) (bc := (0, 0)) (b' := _) (pc' := 24) cw_X3_51 d_X3_kindOfFour_21 rfl (Nat.zero_add _).symm (Nat.zero_add _).symm rfl h (fun _ _ e => t_X7_opposite e) (fun x4 s3 h => ?_)
    refine r_icmp_ne (pcT := 49) (pc' := 27) d_X3_kindOfFour_24 rfl rfl h (fun _ h => ?_) (fun _ h => ?_)
    · refine r_aload_n (pc' := 28) d_X3_kindOfFour_27 rfl rfl rfl ?_
      refine r_get (v := vR 21 _) (pc' := 31) fl_X3_21 d_X3_kindOfFour_28 rfl rfl (fun g => Or.inl ⟨rfl, g.2⟩) rfl ?_
      refine r_iconst (pc' := 32) d_X3_kindOfFour_31 ci_3 rfl ?_
      refine r_iaload (pc' := 33) d_X3_kindOfFour_32 rfl (fun _ => rfl) rfl h (fun h => ?_)
      refine r_aload_n (pc' := 34) d_X3_kindOfFour_33 rfl rfl rfl ?_
      refine r_get (v := vR 21 _) (pc' := 37) fl_X3_21 d_X3_kindOfFour_34 rfl rfl (fun g => Or.inl ⟨rfl, g.2⟩) rfl ?_
      refine r_iconst (pc' := 38) d_X3_kindOfFour_37 ci_1 rfl ?_
      refine r_iaload (pc' := 39) d_X3_kindOfFour_38 rfl (fun _ => rfl) rfl h (fun h => ?_)
      refine n1_i (mc := mi_X7_opposite) (bc := (0, 0)) (b' := _) (pc' := 42) cw_X3_51 d_X3_kindOfFour_39 rfl (Nat.zero_add _).symm (Nat.zero_add _).symm rfl h (fun _ _ e => t_X7_opposite e) (fun x6 s5 h => ?_)
      refine r_icmp_ne (pcT := 49) (pc' := 45) d_X3_kindOfFour_42 rfl rfl h (fun _ h => ?_) (fun _ h => ?_)
      · refine r_iconst (pc' := 46) d_X3_kindOfFour_45 ci_1 rfl ?_
        refine r_goto (pc' := 50) d_X3_kindOfFour_46 rfl ?_
        exact WM.drop [0] rfl (t_X3_kindOfFour_50 h)
      · exact WM.drop [0] rfl (t_X3_kindOfFour_49 h)
    · exact WM.drop [0] rfl (t_X3_kindOfFour_49 h)
/-! OctagonYard$Octagon.kind()I -/
def mi_X3_kind : MI := (yX3_kind, cX3_kind, 1, (some .int))
theorem d_X3_kind_0 : decode mi_X3_kind.2.1 0 = .ok (.aload_n 0, 1) := by decide +kernel
theorem d_X3_kind_1 : decode mi_X3_kind.2.1 1 = .ok (.getfield 54, 3) := by decide +kernel
theorem d_X3_kind_4 : decode mi_X3_kind.2.1 4 = .ok (.tableswitch 41 3 6 #[32, 34, 39, 39], 32) := by decide +kernel
theorem d_X3_kind_36 : decode mi_X3_kind.2.1 36 = .ok (.iconst 2, 1) := by decide +kernel
theorem d_X3_kind_37 : decode mi_X3_kind.2.1 37 = .ok (.ireturn, 1) := by decide +kernel
theorem d_X3_kind_38 : decode mi_X3_kind.2.1 38 = .ok (.aload_n 0, 1) := by decide +kernel
theorem d_X3_kind_39 : decode mi_X3_kind.2.1 39 = .ok (.invokevirtual 67, 3) := by decide +kernel
theorem d_X3_kind_42 : decode mi_X3_kind.2.1 42 = .ok (.ireturn, 1) := by decide +kernel
theorem d_X3_kind_43 : decode mi_X3_kind.2.1 43 = .ok (.iconst 4, 1) := by decide +kernel
theorem d_X3_kind_44 : decode mi_X3_kind.2.1 44 = .ok (.ireturn, 1) := by decide +kernel
theorem d_X3_kind_45 : decode mi_X3_kind.2.1 45 = .ok (.iconst 5, 1) := by decide +kernel
theorem d_X3_kind_46 : decode mi_X3_kind.2.1 46 = .ok (.ireturn, 1) := by decide +kernel
theorem ci_5 : Int32.ofInt (5) = 5 := by decide
theorem cw_X3_67 : CV RX3 67 mi_X3_kindOfFour 0 := by unfold CV; decide +kernel
def f_X3_kind (v0 : Nat) (σ : SS) : Option (Int32 × SS) := if (σ.1 17 v0 4) = 3 then (some ((2 : Int32), σ)) else (if (σ.1 17 v0 4) = 4 then (cal (f_X3_kindOfFour v0 σ) (fun x4 s3 => some (x4, s3))) else (if (σ.1 17 v0 4) = 5 then (some ((4 : Int32), σ)) else (if (σ.1 17 v0 4) = 6 then (some ((4 : Int32), σ)) else (some ((5 : Int32), σ)))))
set_option maxRecDepth 20000 in
theorem t_X3_kind {d : Nat} {b : Nat × Nat} {v0 : Nat} {σ : SS} {r : Int32} {σ' : SS} (h : f_X3_kind v0 σ = some (r, σ')) : MM (d + 2) b mi_X3_kind [vR 17 v0] σ (some (vI r), σ') := by
  refine MM.of (lv := [some (vR 17 v0)]) (by decide +kernel) rfl rfl (fun X Y => ?_)
  rw [f_X3_kind] at h
  refine r_aload_n (pc' := 1) d_X3_kind_0 rfl rfl rfl ?_
  refine r_get (v := vI _) (pc' := 4) fl_X3_54 d_X3_kind_1 rfl rfl (fun _ => trivial) rfl ?_
  refine ite_c h (fun c1 h => ?_) (fun c1 h => ?_)
  · refine r_tswIn (c := 3) (off := 32) (pc' := 36) d_X3_kind_4 c1 (by decide) (by decide) (by decide) rfl ?_
    refine r_iconst (pc' := 37) d_X3_kind_36 ci_2 rfl ?_
    exact r_iret d_X3_kind_37 rfl h
  refine ite_c h (fun c2 h => ?_) (fun c2 h => ?_)
  · refine r_tswIn (c := 4) (off := 34) (pc' := 38) d_X3_kind_4 c2 (by decide) (by decide) (by decide) rfl ?_
    refine r_aload_n (pc' := 39) d_X3_kind_38 rfl rfl rfl ?_
    refine v0_i (mc := mi_X3_kindOfFour) (bc := (0, 0)) (b' := _) (pc' := 42) cw_X3_67 d_X3_kind_39 rfl rfl rfl (Nat.zero_add _).symm (Nat.zero_add _).symm rfl h (fun _ _ e => t_X3_kindOfFour e) (fun x4 s3 h => ?_)
    exact r_iret d_X3_kind_42 rfl h
  refine ite_c h (fun c5 h => ?_) (fun c5 h => ?_)
  · refine r_tswIn (c := 5) (off := 39) (pc' := 43) d_X3_kind_4 c5 (by decide) (by decide) (by decide) rfl ?_
    refine r_iconst (pc' := 44) d_X3_kind_43 ci_4 rfl ?_
    exact r_iret d_X3_kind_44 rfl h
  refine ite_c h (fun c6 h => ?_) (fun c6 h => ?_)
  · refine r_tswIn (c := 6) (off := 39) (pc' := 43) d_X3_kind_4 c6 (by decide) (by decide) (by decide) rfl ?_
    refine r_iconst (pc' := 44) d_X3_kind_43 ci_4 rfl ?_
    exact r_iret d_X3_kind_44 rfl h
  have g0 := lv_neT c1 (show (3 : Int32).toInt = 3 by decide)
  have g1 := lv_neT c2 (show (4 : Int32).toInt = 4 by decide)
  have g2 := lv_neT c5 (show (5 : Int32).toInt = 5 by decide)
  have g3 := lv_neT c6 (show (6 : Int32).toInt = 6 by decide)
  refine r_tswOut (pc' := 45) d_X3_kind_4 (by omega) rfl ?_
  refine r_iconst (pc' := 46) d_X3_kind_45 ci_5 rfl ?_
  exact r_iret d_X3_kind_46 rfl h
/-! OctagonYard$Octagon.eightfold()I -/
def mi_X3_eightfold : MI := (yX3_eightfold, cX3_eightfold, 4, (some .int))
theorem d_X3_eightfold_0 : decode mi_X3_eightfold.2.1 0 = .ok (.iconst 0, 1) := by decide +kernel
theorem d_X3_eightfold_1 : decode mi_X3_eightfold.2.1 1 = .ok (.istore_n 1, 1) := by decide +kernel
theorem d_X3_eightfold_2 : decode mi_X3_eightfold.2.1 2 = .ok (.iconst 0, 1) := by decide +kernel
theorem d_X3_eightfold_3 : decode mi_X3_eightfold.2.1 3 = .ok (.istore_n 2, 1) := by decide +kernel
theorem d_X3_eightfold_4 : decode mi_X3_eightfold.2.1 4 = .ok (.iload_n 2, 1) := by decide +kernel
theorem d_X3_eightfold_5 : decode mi_X3_eightfold.2.1 5 = .ok (.aload_n 0, 1) := by decide +kernel
theorem d_X3_eightfold_6 : decode mi_X3_eightfold.2.1 6 = .ok (.getfield 54, 3) := by decide +kernel
theorem d_X3_eightfold_9 : decode mi_X3_eightfold.2.1 9 = .ok (.if_icmp .ge 45, 3) := by decide +kernel
theorem d_X3_eightfold_12 : decode mi_X3_eightfold.2.1 12 = .ok (.aload_n 0, 1) := by decide +kernel
theorem d_X3_eightfold_13 : decode mi_X3_eightfold.2.1 13 = .ok (.iload_n 2, 1) := by decide +kernel
theorem d_X3_eightfold_14 : decode mi_X3_eightfold.2.1 14 = .ok (.invokevirtual 58, 3) := by decide +kernel
theorem d_X3_eightfold_17 : decode mi_X3_eightfold.2.1 17 = .ok (.istore_n 3, 1) := by decide +kernel
theorem d_X3_eightfold_18 : decode mi_X3_eightfold.2.1 18 = .ok (.iload_n 1, 1) := by decide +kernel
theorem d_X3_eightfold_19 : decode mi_X3_eightfold.2.1 19 = .ok (.aload_n 0, 1) := by decide +kernel
theorem d_X3_eightfold_20 : decode mi_X3_eightfold.2.1 20 = .ok (.getfield 15, 3) := by decide +kernel
theorem d_X3_eightfold_23 : decode mi_X3_eightfold.2.1 23 = .ok (.iload_n 2, 1) := by decide +kernel
theorem d_X3_eightfold_24 : decode mi_X3_eightfold.2.1 24 = .ok (.iaload, 1) := by decide +kernel
theorem d_X3_eightfold_25 : decode mi_X3_eightfold.2.1 25 = .ok (.aload_n 0, 1) := by decide +kernel
theorem d_X3_eightfold_26 : decode mi_X3_eightfold.2.1 26 = .ok (.getfield 18, 3) := by decide +kernel
theorem d_X3_eightfold_29 : decode mi_X3_eightfold.2.1 29 = .ok (.iload_n 3, 1) := by decide +kernel
theorem d_X3_eightfold_30 : decode mi_X3_eightfold.2.1 30 = .ok (.iaload, 1) := by decide +kernel
theorem d_X3_eightfold_31 : decode mi_X3_eightfold.2.1 31 = .ok (.imul, 1) := by decide +kernel
theorem d_X3_eightfold_32 : decode mi_X3_eightfold.2.1 32 = .ok (.aload_n 0, 1) := by decide +kernel
theorem d_X3_eightfold_33 : decode mi_X3_eightfold.2.1 33 = .ok (.getfield 15, 3) := by decide +kernel
theorem d_X3_eightfold_36 : decode mi_X3_eightfold.2.1 36 = .ok (.iload_n 3, 1) := by decide +kernel
theorem d_X3_eightfold_37 : decode mi_X3_eightfold.2.1 37 = .ok (.iaload, 1) := by decide +kernel
theorem d_X3_eightfold_38 : decode mi_X3_eightfold.2.1 38 = .ok (.aload_n 0, 1) := by decide +kernel
theorem d_X3_eightfold_39 : decode mi_X3_eightfold.2.1 39 = .ok (.getfield 18, 3) := by decide +kernel
theorem d_X3_eightfold_42 : decode mi_X3_eightfold.2.1 42 = .ok (.iload_n 2, 1) := by decide +kernel
theorem d_X3_eightfold_43 : decode mi_X3_eightfold.2.1 43 = .ok (.iaload, 1) := by decide +kernel
theorem d_X3_eightfold_44 : decode mi_X3_eightfold.2.1 44 = .ok (.imul, 1) := by decide +kernel
theorem d_X3_eightfold_45 : decode mi_X3_eightfold.2.1 45 = .ok (.isub, 1) := by decide +kernel
theorem d_X3_eightfold_46 : decode mi_X3_eightfold.2.1 46 = .ok (.iadd, 1) := by decide +kernel
theorem d_X3_eightfold_47 : decode mi_X3_eightfold.2.1 47 = .ok (.istore_n 1, 1) := by decide +kernel
theorem d_X3_eightfold_48 : decode mi_X3_eightfold.2.1 48 = .ok (.iinc 2 1, 3) := by decide +kernel
theorem d_X3_eightfold_51 : decode mi_X3_eightfold.2.1 51 = .ok (.goto (-47), 3) := by decide +kernel
theorem d_X3_eightfold_54 : decode mi_X3_eightfold.2.1 54 = .ok (.iload_n 1, 1) := by decide +kernel
theorem d_X3_eightfold_55 : decode mi_X3_eightfold.2.1 55 = .ok (.ireturn, 1) := by decide +kernel
def f_X3_eightfold_4 : Nat → Nat → Int32 → Int32 → SS → Option (Int32 × SS)
  | 0, _, _, _, _ => none
  | n + 1, v0, v1, v2, σ => if (σ.1 17 v0 4) ≤ v2 then (some (v1, σ)) else (cal (f_X3_following v0 v2 σ) (fun x2 s1 => chk (inr v2 8) (chk (inr x2 8) (chk (inr x2 8) (chk (inr v2 8) (lt_ (v1 + (((s1.1 19 v0 (ix v2)) * (s1.1 20 v0 (ix x2))) - ((s1.1 19 v0 (ix x2)) * (s1.1 20 v0 (ix v2))))) (fun x3 => lt_ (v2 + (1 : Int32)) (fun x4 => f_X3_eightfold_4 n v0 x3 x4 s1))))))))
set_option maxRecDepth 20000 in
theorem t_X3_eightfold_4 {d : Nat} {X : MX} {Y : MY} {b : Nat × Nat} {r : Int32} {σ' : SS} : ∀ (n : Nat) (v0 : Nat) (v1 : Int32) (v2 : Int32) (σ : SS), f_X3_eightfold_4 n v0 v1 v2 σ = some (r, σ') → WM (d + 1) X Y b mi_X3_eightfold 4 [some (vR 17 v0), some (vI v1), some (vI v2), none] [] σ (some (vI r), σ') := by
  intro n
  induction n with
  | zero => intro _ _ _ σ h; cases h
  | succ n ih =>
    intro v0 v1 v2 σ h
    rw [f_X3_eightfold_4] at h
    refine r_iload_n (pc' := 5) d_X3_eightfold_4 rfl rfl rfl ?_
    refine r_aload_n (pc' := 6) d_X3_eightfold_5 rfl rfl rfl ?_
    refine r_get (v := vI _) (pc' := 9) fl_X3_54 d_X3_eightfold_6 rfl rfl (fun _ => trivial) rfl ?_
    refine r_icmp_ge (pcT := 54) (pc' := 12) d_X3_eightfold_9 rfl rfl h (fun _ h => ?_) (fun _ h => ?_)
    · refine r_iload_n (pc' := 55) d_X3_eightfold_54 rfl rfl rfl ?_
      exact r_iret d_X3_eightfold_55 rfl h
    · refine r_aload_n (pc' := 13) d_X3_eightfold_12 rfl rfl rfl ?_
      refine r_iload_n (pc' := 14) d_X3_eightfold_13 rfl rfl rfl ?_
      refine v1_i (mc := mi_X3_following) (bc := (0, 0)) (b' := _) (pc' := 17) cw_X3_58 d_X3_eightfold_14 rfl rfl rfl (Nat.zero_add _).symm (Nat.zero_add _).symm rfl h (fun _ _ e => t_X3_following e) (fun x2 s1 h => ?_)
      refine r_istore_n (pc' := 18) d_X3_eightfold_17 rfl rfl rfl rfl ?_
      refine r_iload_n (pc' := 19) d_X3_eightfold_18 rfl rfl rfl ?_
      refine r_aload_n (pc' := 20) d_X3_eightfold_19 rfl rfl rfl ?_
      refine r_get (v := vR 19 _) (pc' := 23) fl_X3_15 d_X3_eightfold_20 rfl rfl (fun g => Or.inl ⟨rfl, g.2⟩) rfl ?_
      refine r_iload_n (pc' := 24) d_X3_eightfold_23 rfl rfl rfl ?_
      refine r_iaload (pc' := 25) d_X3_eightfold_24 rfl (fun _ => rfl) rfl h (fun h => ?_)
      refine r_aload_n (pc' := 26) d_X3_eightfold_25 rfl rfl rfl ?_
      refine r_get (v := vR 20 _) (pc' := 29) fl_X3_18 d_X3_eightfold_26 rfl rfl (fun g => Or.inl ⟨rfl, g.2⟩) rfl ?_
      refine r_iload_n (pc' := 30) d_X3_eightfold_29 rfl rfl rfl ?_
      refine r_iaload (pc' := 31) d_X3_eightfold_30 rfl (fun _ => rfl) rfl h (fun h => ?_)
      refine r_imul (pc' := 32) d_X3_eightfold_31 rfl ?_
      refine r_aload_n (pc' := 33) d_X3_eightfold_32 rfl rfl rfl ?_
      refine r_get (v := vR 19 _) (pc' := 36) fl_X3_15 d_X3_eightfold_33 rfl rfl (fun g => Or.inl ⟨rfl, g.2⟩) rfl ?_
      refine r_iload_n (pc' := 37) d_X3_eightfold_36 rfl rfl rfl ?_
      refine r_iaload (pc' := 38) d_X3_eightfold_37 rfl (fun _ => rfl) rfl h (fun h => ?_)
      refine r_aload_n (pc' := 39) d_X3_eightfold_38 rfl rfl rfl ?_
      refine r_get (v := vR 20 _) (pc' := 42) fl_X3_18 d_X3_eightfold_39 rfl rfl (fun g => Or.inl ⟨rfl, g.2⟩) rfl ?_
      refine r_iload_n (pc' := 43) d_X3_eightfold_42 rfl rfl rfl ?_
      refine r_iaload (pc' := 44) d_X3_eightfold_43 rfl (fun _ => rfl) rfl h (fun h => ?_)
      refine r_imul (pc' := 45) d_X3_eightfold_44 rfl ?_
      refine r_isub (pc' := 46) d_X3_eightfold_45 rfl ?_
      refine r_iadd (pc' := 47) d_X3_eightfold_46 rfl ?_
      refine l_istore_n (pc' := 48) d_X3_eightfold_47 rfl rfl rfl rfl h (fun x3 h => ?_)
      refine l_iinc (pc' := 51) d_X3_eightfold_48 rfl ci_1 rfl rfl rfl h (fun x4 h => ?_)
      refine r_goto (pc' := 4) d_X3_eightfold_51 rfl ?_
      exact WM.drop [3] rfl (ih _ _ _ _ h)
def f_X3_eightfold (v0 : Nat) (σ : SS) : Option (Int32 × SS) := f_X3_eightfold_4 FU v0 (0 : Int32) (0 : Int32) σ
set_option maxRecDepth 20000 in
theorem t_X3_eightfold {d : Nat} {b : Nat × Nat} {v0 : Nat} {σ : SS} {r : Int32} {σ' : SS} (h : f_X3_eightfold v0 σ = some (r, σ')) : MM (d + 1) b mi_X3_eightfold [vR 17 v0] σ (some (vI r), σ') := by
  refine MM.of (lv := [some (vR 17 v0), none, none, none]) (by decide +kernel) rfl rfl (fun X Y => ?_)
  rw [f_X3_eightfold] at h
  refine r_iconst (pc' := 1) d_X3_eightfold_0 ci_0 rfl ?_
  refine r_istore_n (pc' := 2) d_X3_eightfold_1 rfl rfl rfl rfl ?_
  refine r_iconst (pc' := 3) d_X3_eightfold_2 ci_0 rfl ?_
  refine r_istore_n (pc' := 4) d_X3_eightfold_3 rfl rfl rfl rfl ?_
  exact WM.drop [] rfl (t_X3_eightfold_4 _ _ _ _ _ h)
/-! OctagonYard$Octagon.place(II)I -/
def mi_X3_place : MI := (yX3_place, cX3_place, 6, (some .int))
theorem d_X3_place_0 : decode mi_X3_place.2.1 0 = .ok (.iconst 2, 1) := by decide +kernel
theorem d_X3_place_1 : decode mi_X3_place.2.1 1 = .ok (.istore_n 3, 1) := by decide +kernel
theorem d_X3_place_2 : decode mi_X3_place.2.1 2 = .ok (.iconst 0, 1) := by decide +kernel
theorem d_X3_place_3 : decode mi_X3_place.2.1 3 = .ok (.istore 4, 2) := by decide +kernel
theorem d_X3_place_5 : decode mi_X3_place.2.1 5 = .ok (.iload 4, 2) := by decide +kernel
theorem d_X3_place_7 : decode mi_X3_place.2.1 7 = .ok (.bipush 8, 2) := by decide +kernel
theorem d_X3_place_9 : decode mi_X3_place.2.1 9 = .ok (.if_icmp .ge 40, 3) := by decide +kernel
theorem d_X3_place_12 : decode mi_X3_place.2.1 12 = .ok (.iload 4, 2) := by decide +kernel
theorem d_X3_place_14 : decode mi_X3_place.2.1 14 = .ok (.iload_n 1, 1) := by decide +kernel
theorem d_X3_place_15 : decode mi_X3_place.2.1 15 = .ok (.iload_n 2, 1) := by decide +kernel
theorem d_X3_place_16 : decode mi_X3_place.2.1 16 = .ok (.invokestatic 44, 3) := by decide +kernel
theorem d_X3_place_19 : decode mi_X3_place.2.1 19 = .ok (.aload_n 0, 1) := by decide +kernel
theorem d_X3_place_20 : decode mi_X3_place.2.1 20 = .ok (.getfield 9, 3) := by decide +kernel
theorem d_X3_place_23 : decode mi_X3_place.2.1 23 = .ok (.iload 4, 2) := by decide +kernel
theorem d_X3_place_25 : decode mi_X3_place.2.1 25 = .ok (.iaload, 1) := by decide +kernel
theorem d_X3_place_26 : decode mi_X3_place.2.1 26 = .ok (.isub, 1) := by decide +kernel
theorem d_X3_place_27 : decode mi_X3_place.2.1 27 = .ok (.istore 5, 2) := by decide +kernel
theorem d_X3_place_29 : decode mi_X3_place.2.1 29 = .ok (.iload 5, 2) := by decide +kernel
theorem d_X3_place_31 : decode mi_X3_place.2.1 31 = .ok (.ifCond .le 5, 3) := by decide +kernel
theorem d_X3_place_34 : decode mi_X3_place.2.1 34 = .ok (.iconst 0, 1) := by decide +kernel
theorem d_X3_place_35 : decode mi_X3_place.2.1 35 = .ok (.ireturn, 1) := by decide +kernel
theorem d_X3_place_36 : decode mi_X3_place.2.1 36 = .ok (.iload 5, 2) := by decide +kernel
theorem d_X3_place_38 : decode mi_X3_place.2.1 38 = .ok (.ifCond .ne 5, 3) := by decide +kernel
theorem d_X3_place_41 : decode mi_X3_place.2.1 41 = .ok (.iconst 1, 1) := by decide +kernel
theorem d_X3_place_42 : decode mi_X3_place.2.1 42 = .ok (.istore_n 3, 1) := by decide +kernel
theorem d_X3_place_43 : decode mi_X3_place.2.1 43 = .ok (.iinc 4 1, 3) := by decide +kernel
theorem d_X3_place_46 : decode mi_X3_place.2.1 46 = .ok (.goto (-41), 3) := by decide +kernel
theorem d_X3_place_49 : decode mi_X3_place.2.1 49 = .ok (.iload_n 3, 1) := by decide +kernel
theorem d_X3_place_50 : decode mi_X3_place.2.1 50 = .ok (.ireturn, 1) := by decide +kernel
def f_X3_place_43 (K5 : Nat → Int32 → Int32 → Int32 → Int32 → SS → Option (Int32 × SS)) (v0 : Nat) (v1 : Int32) (v2 : Int32) (v3 : Int32) (v4 : Int32) (σ : SS) : Option (Int32 × SS) := lt_ (v4 + (1 : Int32)) (fun x1 => K5 v0 v1 v2 v3 x1 σ)
set_option maxRecDepth 20000 in
theorem t_X3_place_43 {d : Nat} {X : MX} {Y : MY} {b : Nat × Nat} {r : Int32} {σ' : SS} {K5 : Nat → Int32 → Int32 → Int32 → Int32 → SS → Option (Int32 × SS)} {v0 : Nat} {v1 : Int32} {v2 : Int32} {v3 : Int32} {v4 : Int32} (hK5 : ∀ (v0 : Nat) (v1 : Int32) (v2 : Int32) (v3 : Int32) (v4 : Int32) (σ : SS), K5 v0 v1 v2 v3 v4 σ = some (r, σ') → WM (d + 1) X Y b mi_X3_place 5 [some (vR 17 v0), some (vI v1), some (vI v2), some (vI v3), some (vI v4), none] [] σ (some (vI r), σ')) {σ : SS} (h : f_X3_place_43 K5 v0 v1 v2 v3 v4 σ = some (r, σ')) : WM (d + 1) X Y b mi_X3_place 43 [some (vR 17 v0), some (vI v1), some (vI v2), some (vI v3), some (vI v4), none] [] σ (some (vI r), σ') := by
  rw [f_X3_place_43] at h
  refine l_iinc (pc' := 46) d_X3_place_43 rfl ci_1 rfl rfl rfl h (fun x1 h => ?_)
  refine r_goto (pc' := 5) d_X3_place_46 rfl ?_
  exact WM.drop [] rfl (hK5 _ _ _ _ _ _ h)
def f_X3_place_5 : Nat → Nat → Int32 → Int32 → Int32 → Int32 → SS → Option (Int32 × SS)
  | 0, _, _, _, _, _, _ => none
  | n + 1, v0, v1, v2, v3, v4, σ => if (8 : Int32) ≤ v4 then (some (v3, σ)) else (cal (f_X7_measure v4 v1 v2 σ) (fun x2 s1 => chk (inr v4 8) (lt_ (x2 - (s1.1 18 v0 (ix v4))) (fun x3 => if x3 ≤ 0 then (if x3 = 0 then (f_X3_place_43 (f_X3_place_5 n) v0 v1 v2 (1 : Int32) v4 s1) else (f_X3_place_43 (f_X3_place_5 n) v0 v1 v2 v3 v4 s1)) else (some ((0 : Int32), s1))))))
set_option maxRecDepth 20000 in
theorem t_X3_place_5 {d : Nat} {X : MX} {Y : MY} {b : Nat × Nat} {r : Int32} {σ' : SS} : ∀ (n : Nat) (v0 : Nat) (v1 : Int32) (v2 : Int32) (v3 : Int32) (v4 : Int32) (σ : SS), f_X3_place_5 n v0 v1 v2 v3 v4 σ = some (r, σ') → WM (d + 1) X Y b mi_X3_place 5 [some (vR 17 v0), some (vI v1), some (vI v2), some (vI v3), some (vI v4), none] [] σ (some (vI r), σ') := by
  intro n
  induction n with
  | zero => intro _ _ _ _ _ σ h; cases h
  | succ n ih =>
    intro v0 v1 v2 v3 v4 σ h
    rw [f_X3_place_5] at h
    refine r_iload (pc' := 7) d_X3_place_5 rfl rfl ?_
    refine r_bipush (pc' := 9) d_X3_place_7 cb_8 rfl ?_
    refine r_icmp_ge (pcT := 49) (pc' := 12) d_X3_place_9 rfl rfl h (fun _ h => ?_) (fun _ h => ?_)
    · refine r_iload_n (pc' := 50) d_X3_place_49 rfl rfl rfl ?_
      exact r_iret d_X3_place_50 rfl h
    · refine r_iload (pc' := 14) d_X3_place_12 rfl rfl ?_
      refine r_iload_n (pc' := 15) d_X3_place_14 rfl rfl rfl ?_
      refine r_iload_n (pc' := 16) d_X3_place_15 rfl rfl rfl ?_
      refine n3_i (mc := mi_X7_measure) (bc := (0, 0)) (b' := _) (pc' := 19) cw_X3_44 d_X3_place_16 rfl (Nat.zero_add _).symm (Nat.zero_add _).symm rfl h (fun _ _ e => t_X7_measure e) (fun x2 s1 h => ?_)
      refine r_aload_n (pc' := 20) d_X3_place_19 rfl rfl rfl ?_
      refine r_get (v := vR 18 _) (pc' := 23) fl_X3_9 d_X3_place_20 rfl rfl (fun g => Or.inl ⟨rfl, g.2⟩) rfl ?_
      refine r_iload (pc' := 25) d_X3_place_23 rfl rfl ?_
      refine r_iaload (pc' := 26) d_X3_place_25 rfl (fun _ => rfl) rfl h (fun h => ?_)
      refine r_isub (pc' := 27) d_X3_place_26 rfl ?_
      refine l_istore (pc' := 29) d_X3_place_27 rfl rfl rfl h (fun x3 h => ?_)
      refine r_iload (pc' := 31) d_X3_place_29 rfl rfl ?_
      refine r_if_le (pcT := 36) (pc' := 34) d_X3_place_31 rfl rfl h (fun _ h => ?_) (fun _ h => ?_)
      · refine r_iload (pc' := 38) d_X3_place_36 rfl rfl ?_
        refine r_if_ne (pcT := 43) (pc' := 41) d_X3_place_38 rfl rfl h (fun _ h => ?_) (fun _ h => ?_)
        · refine r_iconst (pc' := 42) d_X3_place_41 ci_1 rfl ?_
          refine r_istore_n (pc' := 43) d_X3_place_42 rfl rfl rfl rfl ?_
          exact WM.drop [5] rfl (t_X3_place_43 ih h)
        · exact WM.drop [5] rfl (t_X3_place_43 ih h)
      · refine r_iconst (pc' := 35) d_X3_place_34 ci_0 rfl ?_
        exact r_iret d_X3_place_35 rfl h
def f_X3_place (v0 : Nat) (v1 : Int32) (v2 : Int32) (σ : SS) : Option (Int32 × SS) := f_X3_place_5 FU v0 v1 v2 (2 : Int32) (0 : Int32) σ
set_option maxRecDepth 20000 in
theorem t_X3_place {d : Nat} {b : Nat × Nat} {v0 : Nat} {v1 : Int32} {v2 : Int32} {σ : SS} {r : Int32} {σ' : SS} (h : f_X3_place v0 v1 v2 σ = some (r, σ')) : MM (d + 1) b mi_X3_place [vR 17 v0, vI v1, vI v2] σ (some (vI r), σ') := by
  refine MM.of (lv := [some (vR 17 v0), some (vI v1), some (vI v2), none, none, none]) (by decide +kernel) rfl rfl (fun X Y => ?_)
  rw [f_X3_place] at h
  refine r_iconst (pc' := 1) d_X3_place_0 ci_2 rfl ?_
  refine r_istore_n (pc' := 2) d_X3_place_1 rfl rfl rfl rfl ?_
  refine r_iconst (pc' := 3) d_X3_place_2 ci_0 rfl ?_
  refine r_istore (pc' := 5) d_X3_place_3 rfl rfl rfl ?_
  exact WM.drop [] rfl (t_X3_place_5 _ _ _ _ _ _ _ h)
/-! OctagonYard$Octagon.overlaps(LOctagonYard$Octagon;)Z -/
def mi_X3_overlaps : MI := (yX3_overlaps, cX3_overlaps, 3, (some .boolean))
theorem d_X3_overlaps_0 : decode mi_X3_overlaps.2.1 0 = .ok (.iconst 0, 1) := by decide +kernel
theorem d_X3_overlaps_1 : decode mi_X3_overlaps.2.1 1 = .ok (.istore_n 2, 1) := by decide +kernel
theorem d_X3_overlaps_2 : decode mi_X3_overlaps.2.1 2 = .ok (.iload_n 2, 1) := by decide +kernel
theorem d_X3_overlaps_3 : decode mi_X3_overlaps.2.1 3 = .ok (.bipush 8, 2) := by decide +kernel
theorem d_X3_overlaps_5 : decode mi_X3_overlaps.2.1 5 = .ok (.if_icmp .ge 30, 3) := by decide +kernel
theorem d_X3_overlaps_8 : decode mi_X3_overlaps.2.1 8 = .ok (.aload_n 0, 1) := by decide +kernel
theorem d_X3_overlaps_9 : decode mi_X3_overlaps.2.1 9 = .ok (.getfield 9, 3) := by decide +kernel
theorem d_X3_overlaps_12 : decode mi_X3_overlaps.2.1 12 = .ok (.iload_n 2, 1) := by decide +kernel
theorem d_X3_overlaps_13 : decode mi_X3_overlaps.2.1 13 = .ok (.iaload, 1) := by decide +kernel
theorem d_X3_overlaps_14 : decode mi_X3_overlaps.2.1 14 = .ok (.aload_n 1, 1) := by decide +kernel
theorem d_X3_overlaps_15 : decode mi_X3_overlaps.2.1 15 = .ok (.getfield 9, 3) := by decide +kernel
theorem d_X3_overlaps_18 : decode mi_X3_overlaps.2.1 18 = .ok (.iload_n 2, 1) := by decide +kernel
theorem d_X3_overlaps_19 : decode mi_X3_overlaps.2.1 19 = .ok (.invokestatic 51, 3) := by decide +kernel
theorem d_X3_overlaps_22 : decode mi_X3_overlaps.2.1 22 = .ok (.iaload, 1) := by decide +kernel
theorem d_X3_overlaps_23 : decode mi_X3_overlaps.2.1 23 = .ok (.iadd, 1) := by decide +kernel
theorem d_X3_overlaps_24 : decode mi_X3_overlaps.2.1 24 = .ok (.ifCond .gt 5, 3) := by decide +kernel
theorem d_X3_overlaps_27 : decode mi_X3_overlaps.2.1 27 = .ok (.iconst 0, 1) := by decide +kernel
theorem d_X3_overlaps_28 : decode mi_X3_overlaps.2.1 28 = .ok (.ireturn, 1) := by decide +kernel
theorem d_X3_overlaps_29 : decode mi_X3_overlaps.2.1 29 = .ok (.iinc 2 1, 3) := by decide +kernel
theorem d_X3_overlaps_32 : decode mi_X3_overlaps.2.1 32 = .ok (.goto (-30), 3) := by decide +kernel
theorem d_X3_overlaps_35 : decode mi_X3_overlaps.2.1 35 = .ok (.iconst 1, 1) := by decide +kernel
theorem d_X3_overlaps_36 : decode mi_X3_overlaps.2.1 36 = .ok (.ireturn, 1) := by decide +kernel
def f_X3_overlaps_2 : Nat → Nat → Nat → Int32 → SS → Option (Int32 × SS)
  | 0, _, _, _, _ => none
  | n + 1, v0, v1, v2, σ => if (8 : Int32) ≤ v2 then (some ((1 : Int32), σ)) else (chk (inr v2 8) (cal (f_X7_opposite v2 σ) (fun x2 s1 => chk (inr x2 8) (if 0 < ((σ.1 18 v0 (ix v2)) + (s1.1 18 v1 (ix x2))) then (lt_ (v2 + (1 : Int32)) (fun x3 => f_X3_overlaps_2 n v0 v1 x3 s1)) else (some ((0 : Int32), s1))))))
set_option maxRecDepth 20000 in
theorem t_X3_overlaps_2 {d : Nat} {X : MX} {Y : MY} {b : Nat × Nat} {r : Int32} {σ' : SS} : ∀ (n : Nat) (v0 : Nat) (v1 : Nat) (v2 : Int32) (σ : SS), f_X3_overlaps_2 n v0 v1 v2 σ = some (r, σ') → WM (d + 1) X Y b mi_X3_overlaps 2 [some (vR 17 v0), some (vR 17 v1), some (vI v2)] [] σ (some (vI r), σ') := by
  intro n
  induction n with
  | zero => intro _ _ _ σ h; cases h
  | succ n ih =>
    intro v0 v1 v2 σ h
    rw [f_X3_overlaps_2] at h
    refine r_iload_n (pc' := 3) d_X3_overlaps_2 rfl rfl rfl ?_
    refine r_bipush (pc' := 5) d_X3_overlaps_3 cb_8 rfl ?_
    refine r_icmp_ge (pcT := 35) (pc' := 8) d_X3_overlaps_5 rfl rfl h (fun _ h => ?_) (fun _ h => ?_)
    · refine r_iconst (pc' := 36) d_X3_overlaps_35 ci_1 rfl ?_
      exact r_zret d_X3_overlaps_36 rfl (Or.inr rfl) h
    · refine r_aload_n (pc' := 9) d_X3_overlaps_8 rfl rfl rfl ?_
      refine r_get (v := vR 18 _) (pc' := 12) fl_X3_9 d_X3_overlaps_9 rfl rfl (fun g => Or.inl ⟨rfl, g.2⟩) rfl ?_
      refine r_iload_n (pc' := 13) d_X3_overlaps_12 rfl rfl rfl ?_
      refine r_iaload (pc' := 14) d_X3_overlaps_13 rfl (fun _ => rfl) rfl h (fun h => ?_)
      refine r_aload_n (pc' := 15) d_X3_overlaps_14 rfl rfl rfl ?_
      refine r_get (v := vR 18 _) (pc' := 18) fl_X3_9 d_X3_overlaps_15 rfl rfl (fun g => Or.inl ⟨rfl, g.2⟩) rfl ?_
      refine r_iload_n (pc' := 19) d_X3_overlaps_18 rfl rfl rfl ?_
      refine n1_i (mc := mi_X7_opposite) (bc := (0, 0)) (b' := _) (pc' := 22) cw_X3_51 d_X3_overlaps_19 rfl (Nat.zero_add _).symm (Nat.zero_add _).symm rfl h (fun _ _ e => t_X7_opposite e) (fun x2 s1 h => ?_)
      refine r_iaload (pc' := 23) d_X3_overlaps_22 rfl (fun _ => rfl) rfl h (fun h => ?_)
      refine r_iadd (pc' := 24) d_X3_overlaps_23 rfl ?_
      refine r_if_gt (pcT := 29) (pc' := 27) d_X3_overlaps_24 rfl rfl h (fun _ h => ?_) (fun _ h => ?_)
      · refine l_iinc (pc' := 32) d_X3_overlaps_29 rfl ci_1 rfl rfl rfl h (fun x3 h => ?_)
        refine r_goto (pc' := 2) d_X3_overlaps_32 rfl ?_
        exact WM.drop [] rfl (ih _ _ _ _ h)
      · refine r_iconst (pc' := 28) d_X3_overlaps_27 ci_0 rfl ?_
        exact r_zret d_X3_overlaps_28 rfl (Or.inl rfl) h
def f_X3_overlaps (v0 : Nat) (v1 : Nat) (σ : SS) : Option (Int32 × SS) := f_X3_overlaps_2 FU v0 v1 (0 : Int32) σ
set_option maxRecDepth 20000 in
theorem t_X3_overlaps {d : Nat} {b : Nat × Nat} {v0 : Nat} {v1 : Nat} {σ : SS} {r : Int32} {σ' : SS} (h : f_X3_overlaps v0 v1 σ = some (r, σ')) : MM (d + 1) b mi_X3_overlaps [vR 17 v0, vR 17 v1] σ (some (vI r), σ') := by
  refine MM.of (lv := [some (vR 17 v0), some (vR 17 v1), none]) (by decide +kernel) rfl rfl (fun X Y => ?_)
  rw [f_X3_overlaps] at h
  refine r_iconst (pc' := 1) d_X3_overlaps_0 ci_0 rfl ?_
  refine r_istore_n (pc' := 2) d_X3_overlaps_1 rfl rfl rfl rfl ?_
  exact WM.drop [] rfl (t_X3_overlaps_2 _ _ _ _ _ h)
/-! OctagonYard$Octagon.alongSide(II)I -/
def mi_X3_alongSide : MI := (yX3_alongSide, cX3_alongSide, 3, (some .int))
theorem d_X3_alongSide_0 : decode mi_X3_alongSide.2.1 0 = .ok (.aload_n 0, 1) := by decide +kernel
theorem d_X3_alongSide_1 : decode mi_X3_alongSide.2.1 1 = .ok (.getfield 21, 3) := by decide +kernel
theorem d_X3_alongSide_4 : decode mi_X3_alongSide.2.1 4 = .ok (.iload_n 1, 1) := by decide +kernel
theorem d_X3_alongSide_5 : decode mi_X3_alongSide.2.1 5 = .ok (.iaload, 1) := by decide +kernel
theorem d_X3_alongSide_6 : decode mi_X3_alongSide.2.1 6 = .ok (.iconst 4, 1) := by decide +kernel
theorem d_X3_alongSide_7 : decode mi_X3_alongSide.2.1 7 = .ok (.irem, 1) := by decide +kernel
theorem d_X3_alongSide_8 : decode mi_X3_alongSide.2.1 8 = .ok (.ifCond .ne 12, 3) := by decide +kernel
theorem d_X3_alongSide_11 : decode mi_X3_alongSide.2.1 11 = .ok (.aload_n 0, 1) := by decide +kernel
theorem d_X3_alongSide_12 : decode mi_X3_alongSide.2.1 12 = .ok (.getfield 18, 3) := by decide +kernel
theorem d_X3_alongSide_15 : decode mi_X3_alongSide.2.1 15 = .ok (.iload_n 2, 1) := by decide +kernel
theorem d_X3_alongSide_16 : decode mi_X3_alongSide.2.1 16 = .ok (.iaload, 1) := by decide +kernel
theorem d_X3_alongSide_17 : decode mi_X3_alongSide.2.1 17 = .ok (.goto 9, 3) := by decide +kernel
theorem d_X3_alongSide_20 : decode mi_X3_alongSide.2.1 20 = .ok (.aload_n 0, 1) := by decide +kernel
theorem d_X3_alongSide_21 : decode mi_X3_alongSide.2.1 21 = .ok (.getfield 15, 3) := by decide +kernel
theorem d_X3_alongSide_24 : decode mi_X3_alongSide.2.1 24 = .ok (.iload_n 2, 1) := by decide +kernel
theorem d_X3_alongSide_25 : decode mi_X3_alongSide.2.1 25 = .ok (.iaload, 1) := by decide +kernel
theorem d_X3_alongSide_26 : decode mi_X3_alongSide.2.1 26 = .ok (.ireturn, 1) := by decide +kernel
def f_X3_alongSide (v0 : Nat) (v1 : Int32) (v2 : Int32) (σ : SS) : Option (Int32 × SS) := chk (inr v1 8) (if ((σ.1 21 v0 (ix v1)) - (σ.1 21 v0 (ix v1)) / (4 : Int32) * (4 : Int32)) = 0 then (chk (inr v2 8) (some ((σ.1 20 v0 (ix v2)), σ))) else (chk (inr v2 8) (some ((σ.1 19 v0 (ix v2)), σ))))
set_option maxRecDepth 20000 in
theorem t_X3_alongSide {d : Nat} {b : Nat × Nat} {v0 : Nat} {v1 : Int32} {v2 : Int32} {σ : SS} {r : Int32} {σ' : SS} (h : f_X3_alongSide v0 v1 v2 σ = some (r, σ')) : MM d b mi_X3_alongSide [vR 17 v0, vI v1, vI v2] σ (some (vI r), σ') := by
  refine MM.of (lv := [some (vR 17 v0), some (vI v1), some (vI v2)]) (by decide +kernel) rfl rfl (fun X Y => ?_)
  rw [f_X3_alongSide] at h
  refine r_aload_n (pc' := 1) d_X3_alongSide_0 rfl rfl rfl ?_
  refine r_get (v := vR 21 _) (pc' := 4) fl_X3_21 d_X3_alongSide_1 rfl rfl (fun g => Or.inl ⟨rfl, g.2⟩) rfl ?_
  refine r_iload_n (pc' := 5) d_X3_alongSide_4 rfl rfl rfl ?_
  refine r_iaload (pc' := 6) d_X3_alongSide_5 rfl (fun _ => rfl) rfl h (fun h => ?_)
  refine r_iconst (pc' := 7) d_X3_alongSide_6 ci_4 rfl ?_
  refine r_irem (pc' := 8) d_X3_alongSide_7 (by decide) rfl ?_
  refine r_if_ne (pcT := 20) (pc' := 11) d_X3_alongSide_8 rfl rfl h (fun _ h => ?_) (fun _ h => ?_)
  · refine r_aload_n (pc' := 12) d_X3_alongSide_11 rfl rfl rfl ?_
    refine r_get (v := vR 20 _) (pc' := 15) fl_X3_18 d_X3_alongSide_12 rfl rfl (fun g => Or.inl ⟨rfl, g.2⟩) rfl ?_
    refine r_iload_n (pc' := 16) d_X3_alongSide_15 rfl rfl rfl ?_
    refine r_iaload (pc' := 17) d_X3_alongSide_16 rfl (fun _ => rfl) rfl h (fun h => ?_)
    refine r_goto (pc' := 26) d_X3_alongSide_17 rfl ?_
    exact r_iret d_X3_alongSide_26 rfl h
  · refine r_aload_n (pc' := 21) d_X3_alongSide_20 rfl rfl rfl ?_
    refine r_get (v := vR 19 _) (pc' := 24) fl_X3_15 d_X3_alongSide_21 rfl rfl (fun g => Or.inl ⟨rfl, g.2⟩) rfl ?_
    refine r_iload_n (pc' := 25) d_X3_alongSide_24 rfl rfl rfl ?_
    refine r_iaload (pc' := 26) d_X3_alongSide_25 rfl (fun _ => rfl) rfl h (fun h => ?_)
    exact r_iret d_X3_alongSide_26 rfl h
/-! OctagonYard$Octagon.highEnd(I)I -/
def mi_X3_highEnd : MI := (yX3_highEnd, cX3_highEnd, 2, (some .int))
theorem d_X3_highEnd_0 : decode mi_X3_highEnd.2.1 0 = .ok (.aload_n 0, 1) := by decide +kernel
theorem d_X3_highEnd_1 : decode mi_X3_highEnd.2.1 1 = .ok (.iload_n 1, 1) := by decide +kernel
theorem d_X3_highEnd_2 : decode mi_X3_highEnd.2.1 2 = .ok (.iload_n 1, 1) := by decide +kernel
theorem d_X3_highEnd_3 : decode mi_X3_highEnd.2.1 3 = .ok (.invokevirtual 93, 3) := by decide +kernel
theorem d_X3_highEnd_6 : decode mi_X3_highEnd.2.1 6 = .ok (.aload_n 0, 1) := by decide +kernel
theorem d_X3_highEnd_7 : decode mi_X3_highEnd.2.1 7 = .ok (.iload_n 1, 1) := by decide +kernel
theorem d_X3_highEnd_8 : decode mi_X3_highEnd.2.1 8 = .ok (.aload_n 0, 1) := by decide +kernel
theorem d_X3_highEnd_9 : decode mi_X3_highEnd.2.1 9 = .ok (.iload_n 1, 1) := by decide +kernel
theorem d_X3_highEnd_10 : decode mi_X3_highEnd.2.1 10 = .ok (.invokevirtual 58, 3) := by decide +kernel
theorem d_X3_highEnd_13 : decode mi_X3_highEnd.2.1 13 = .ok (.invokevirtual 93, 3) := by decide +kernel
theorem d_X3_highEnd_16 : decode mi_X3_highEnd.2.1 16 = .ok (.invokestatic 84, 3) := by decide +kernel
theorem d_X3_highEnd_19 : decode mi_X3_highEnd.2.1 19 = .ok (.ireturn, 1) := by decide +kernel
theorem cw_X3_93 : CV RX3 93 mi_X3_alongSide 2 := by unfold CV; decide +kernel
def f_X3_highEnd (v0 : Nat) (v1 : Int32) (σ : SS) : Option (Int32 × SS) := cal (f_X3_alongSide v0 v1 v1 σ) (fun x2 s1 => cal (f_X3_following v0 v1 s1) (fun x4 s3 => cal (f_X3_alongSide v0 v1 x4 s3) (fun x6 s5 => some ((if x2 < x6 then x6 else x2), s5))))
set_option maxRecDepth 20000 in
theorem t_X3_highEnd {d : Nat} {b : Nat × Nat} {v0 : Nat} {v1 : Int32} {σ : SS} {r : Int32} {σ' : SS} (h : f_X3_highEnd v0 v1 σ = some (r, σ')) : MM (d + 1) b mi_X3_highEnd [vR 17 v0, vI v1] σ (some (vI r), σ') := by
  refine MM.of (lv := [some (vR 17 v0), some (vI v1)]) (by decide +kernel) rfl rfl (fun X Y => ?_)
  rw [f_X3_highEnd] at h
  refine r_aload_n (pc' := 1) d_X3_highEnd_0 rfl rfl rfl ?_
  refine r_iload_n (pc' := 2) d_X3_highEnd_1 rfl rfl rfl ?_
  refine r_iload_n (pc' := 3) d_X3_highEnd_2 rfl rfl rfl ?_
  refine v2_i (mc := mi_X3_alongSide) (bc := (0, 0)) (b' := _) (pc' := 6) cw_X3_93 d_X3_highEnd_3 rfl rfl rfl (Nat.zero_add _).symm (Nat.zero_add _).symm rfl h (fun _ _ e => t_X3_alongSide e) (fun x2 s1 h => ?_)
  refine r_aload_n (pc' := 7) d_X3_highEnd_6 rfl rfl rfl ?_
  refine r_iload_n (pc' := 8) d_X3_highEnd_7 rfl rfl rfl ?_
  refine r_aload_n (pc' := 9) d_X3_highEnd_8 rfl rfl rfl ?_
  refine r_iload_n (pc' := 10) d_X3_highEnd_9 rfl rfl rfl ?_
  refine v1_i (mc := mi_X3_following) (bc := (0, 0)) (b' := _) (pc' := 13) cw_X3_58 d_X3_highEnd_10 rfl rfl rfl (Nat.zero_add _).symm (Nat.zero_add _).symm rfl h (fun _ _ e => t_X3_following e) (fun x4 s3 h => ?_)
  refine v2_i (mc := mi_X3_alongSide) (bc := (0, 0)) (b' := _) (pc' := 16) cw_X3_93 d_X3_highEnd_13 rfl rfl rfl (Nat.zero_add _).symm (Nat.zero_add _).symm rfl h (fun _ _ e => t_X3_alongSide e) (fun x6 s5 h => ?_)
  refine r_mmax (pc' := 19) cx_X3_84 d_X3_highEnd_16 rfl rfl ?_
  exact r_iret d_X3_highEnd_19 rfl h
/-! OctagonYard$Octagon.lowEnd(I)I -/
def mi_X3_lowEnd : MI := (yX3_lowEnd, cX3_lowEnd, 2, (some .int))
theorem d_X3_lowEnd_0 : decode mi_X3_lowEnd.2.1 0 = .ok (.aload_n 0, 1) := by decide +kernel
theorem d_X3_lowEnd_1 : decode mi_X3_lowEnd.2.1 1 = .ok (.iload_n 1, 1) := by decide +kernel
theorem d_X3_lowEnd_2 : decode mi_X3_lowEnd.2.1 2 = .ok (.iload_n 1, 1) := by decide +kernel
theorem d_X3_lowEnd_3 : decode mi_X3_lowEnd.2.1 3 = .ok (.invokevirtual 93, 3) := by decide +kernel
theorem d_X3_lowEnd_6 : decode mi_X3_lowEnd.2.1 6 = .ok (.aload_n 0, 1) := by decide +kernel
theorem d_X3_lowEnd_7 : decode mi_X3_lowEnd.2.1 7 = .ok (.iload_n 1, 1) := by decide +kernel
theorem d_X3_lowEnd_8 : decode mi_X3_lowEnd.2.1 8 = .ok (.aload_n 0, 1) := by decide +kernel
theorem d_X3_lowEnd_9 : decode mi_X3_lowEnd.2.1 9 = .ok (.iload_n 1, 1) := by decide +kernel
theorem d_X3_lowEnd_10 : decode mi_X3_lowEnd.2.1 10 = .ok (.invokevirtual 58, 3) := by decide +kernel
theorem d_X3_lowEnd_13 : decode mi_X3_lowEnd.2.1 13 = .ok (.invokevirtual 93, 3) := by decide +kernel
theorem d_X3_lowEnd_16 : decode mi_X3_lowEnd.2.1 16 = .ok (.invokestatic 90, 3) := by decide +kernel
theorem d_X3_lowEnd_19 : decode mi_X3_lowEnd.2.1 19 = .ok (.ireturn, 1) := by decide +kernel
theorem cx_X3_90 : CX RX3 90 Lib.Math.min.name Lib.Math.min.code := by unfold CX; decide +kernel
def f_X3_lowEnd (v0 : Nat) (v1 : Int32) (σ : SS) : Option (Int32 × SS) := cal (f_X3_alongSide v0 v1 v1 σ) (fun x2 s1 => cal (f_X3_following v0 v1 s1) (fun x4 s3 => cal (f_X3_alongSide v0 v1 x4 s3) (fun x6 s5 => some ((if x6 < x2 then x6 else x2), s5))))
set_option maxRecDepth 20000 in
theorem t_X3_lowEnd {d : Nat} {b : Nat × Nat} {v0 : Nat} {v1 : Int32} {σ : SS} {r : Int32} {σ' : SS} (h : f_X3_lowEnd v0 v1 σ = some (r, σ')) : MM (d + 1) b mi_X3_lowEnd [vR 17 v0, vI v1] σ (some (vI r), σ') := by
  refine MM.of (lv := [some (vR 17 v0), some (vI v1)]) (by decide +kernel) rfl rfl (fun X Y => ?_)
  rw [f_X3_lowEnd] at h
  refine r_aload_n (pc' := 1) d_X3_lowEnd_0 rfl rfl rfl ?_
  refine r_iload_n (pc' := 2) d_X3_lowEnd_1 rfl rfl rfl ?_
  refine r_iload_n (pc' := 3) d_X3_lowEnd_2 rfl rfl rfl ?_
  refine v2_i (mc := mi_X3_alongSide) (bc := (0, 0)) (b' := _) (pc' := 6) cw_X3_93 d_X3_lowEnd_3 rfl rfl rfl (Nat.zero_add _).symm (Nat.zero_add _).symm rfl h (fun _ _ e => t_X3_alongSide e) (fun x2 s1 h => ?_)
  refine r_aload_n (pc' := 7) d_X3_lowEnd_6 rfl rfl rfl ?_
  refine r_iload_n (pc' := 8) d_X3_lowEnd_7 rfl rfl rfl ?_
  refine r_aload_n (pc' := 9) d_X3_lowEnd_8 rfl rfl rfl ?_
  refine r_iload_n (pc' := 10) d_X3_lowEnd_9 rfl rfl rfl ?_
  refine v1_i (mc := mi_X3_following) (bc := (0, 0)) (b' := _) (pc' := 13) cw_X3_58 d_X3_lowEnd_10 rfl rfl rfl (Nat.zero_add _).symm (Nat.zero_add _).symm rfl h (fun _ _ e => t_X3_following e) (fun x4 s3 h => ?_)
  refine v2_i (mc := mi_X3_alongSide) (bc := (0, 0)) (b' := _) (pc' := 16) cw_X3_93 d_X3_lowEnd_13 rfl rfl rfl (Nat.zero_add _).symm (Nat.zero_add _).symm rfl h (fun _ _ e => t_X3_alongSide e) (fun x6 s5 h => ?_)
  refine r_mmin (pc' := 19) cx_X3_90 d_X3_lowEnd_16 rfl rfl ?_
  exact r_iret d_X3_lowEnd_19 rfl h
/-! OctagonYard$Octagon.sideOf(I)I -/
def mi_X3_sideOf : MI := (yX3_sideOf, cX3_sideOf, 3, (some .int))
theorem d_X3_sideOf_0 : decode mi_X3_sideOf.2.1 0 = .ok (.iconst 0, 1) := by decide +kernel
theorem d_X3_sideOf_1 : decode mi_X3_sideOf.2.1 1 = .ok (.istore_n 2, 1) := by decide +kernel
theorem d_X3_sideOf_2 : decode mi_X3_sideOf.2.1 2 = .ok (.iload_n 2, 1) := by decide +kernel
theorem d_X3_sideOf_3 : decode mi_X3_sideOf.2.1 3 = .ok (.aload_n 0, 1) := by decide +kernel
theorem d_X3_sideOf_4 : decode mi_X3_sideOf.2.1 4 = .ok (.getfield 54, 3) := by decide +kernel
theorem d_X3_sideOf_7 : decode mi_X3_sideOf.2.1 7 = .ok (.if_icmp .ge 21, 3) := by decide +kernel
theorem d_X3_sideOf_10 : decode mi_X3_sideOf.2.1 10 = .ok (.aload_n 0, 1) := by decide +kernel
theorem d_X3_sideOf_11 : decode mi_X3_sideOf.2.1 11 = .ok (.getfield 21, 3) := by decide +kernel
theorem d_X3_sideOf_14 : decode mi_X3_sideOf.2.1 14 = .ok (.iload_n 2, 1) := by decide +kernel
theorem d_X3_sideOf_15 : decode mi_X3_sideOf.2.1 15 = .ok (.iaload, 1) := by decide +kernel
theorem d_X3_sideOf_16 : decode mi_X3_sideOf.2.1 16 = .ok (.iload_n 1, 1) := by decide +kernel
theorem d_X3_sideOf_17 : decode mi_X3_sideOf.2.1 17 = .ok (.if_icmp .ne 5, 3) := by decide +kernel
theorem d_X3_sideOf_20 : decode mi_X3_sideOf.2.1 20 = .ok (.iload_n 2, 1) := by decide +kernel
theorem d_X3_sideOf_21 : decode mi_X3_sideOf.2.1 21 = .ok (.ireturn, 1) := by decide +kernel
theorem d_X3_sideOf_22 : decode mi_X3_sideOf.2.1 22 = .ok (.iinc 2 1, 3) := by decide +kernel
theorem d_X3_sideOf_25 : decode mi_X3_sideOf.2.1 25 = .ok (.goto (-23), 3) := by decide +kernel
theorem d_X3_sideOf_28 : decode mi_X3_sideOf.2.1 28 = .ok (.bipush (-4), 2) := by decide +kernel
theorem d_X3_sideOf_30 : decode mi_X3_sideOf.2.1 30 = .ok (.ireturn, 1) := by decide +kernel
theorem cb_m4 : (Int8.ofInt (-4)).toInt32 = -4 := by decide
def f_X3_sideOf_2 : Nat → Nat → Int32 → Int32 → SS → Option (Int32 × SS)
  | 0, _, _, _, _ => none
  | n + 1, v0, v1, v2, σ => if (σ.1 17 v0 4) ≤ v2 then (some ((-4 : Int32), σ)) else (chk (inr v2 8) (if (σ.1 21 v0 (ix v2)) = v1 then (some (v2, σ)) else (lt_ (v2 + (1 : Int32)) (fun x1 => f_X3_sideOf_2 n v0 v1 x1 σ))))
set_option maxRecDepth 20000 in
theorem t_X3_sideOf_2 {d : Nat} {X : MX} {Y : MY} {b : Nat × Nat} {r : Int32} {σ' : SS} : ∀ (n : Nat) (v0 : Nat) (v1 : Int32) (v2 : Int32) (σ : SS), f_X3_sideOf_2 n v0 v1 v2 σ = some (r, σ') → WM d X Y b mi_X3_sideOf 2 [some (vR 17 v0), some (vI v1), some (vI v2)] [] σ (some (vI r), σ') := by
  intro n
  induction n with
  | zero => intro _ _ _ σ h; cases h
  | succ n ih =>
    intro v0 v1 v2 σ h
    rw [f_X3_sideOf_2] at h
    refine r_iload_n (pc' := 3) d_X3_sideOf_2 rfl rfl rfl ?_
    refine r_aload_n (pc' := 4) d_X3_sideOf_3 rfl rfl rfl ?_
    refine r_get (v := vI _) (pc' := 7) fl_X3_54 d_X3_sideOf_4 rfl rfl (fun _ => trivial) rfl ?_
    refine r_icmp_ge (pcT := 28) (pc' := 10) d_X3_sideOf_7 rfl rfl h (fun _ h => ?_) (fun _ h => ?_)
    · refine r_bipush (pc' := 30) d_X3_sideOf_28 cb_m4 rfl ?_
      exact r_iret d_X3_sideOf_30 rfl h
    · refine r_aload_n (pc' := 11) d_X3_sideOf_10 rfl rfl rfl ?_
      refine r_get (v := vR 21 _) (pc' := 14) fl_X3_21 d_X3_sideOf_11 rfl rfl (fun g => Or.inl ⟨rfl, g.2⟩) rfl ?_
      refine r_iload_n (pc' := 15) d_X3_sideOf_14 rfl rfl rfl ?_
      refine r_iaload (pc' := 16) d_X3_sideOf_15 rfl (fun _ => rfl) rfl h (fun h => ?_)
      refine r_iload_n (pc' := 17) d_X3_sideOf_16 rfl rfl rfl ?_
      refine r_icmp_ne (pcT := 22) (pc' := 20) d_X3_sideOf_17 rfl rfl h (fun _ h => ?_) (fun _ h => ?_)
      · refine r_iload_n (pc' := 21) d_X3_sideOf_20 rfl rfl rfl ?_
        exact r_iret d_X3_sideOf_21 rfl h
      · refine l_iinc (pc' := 25) d_X3_sideOf_22 rfl ci_1 rfl rfl rfl h (fun x1 h => ?_)
        refine r_goto (pc' := 2) d_X3_sideOf_25 rfl ?_
        exact WM.drop [] rfl (ih _ _ _ _ h)
def f_X3_sideOf (v0 : Nat) (v1 : Int32) (σ : SS) : Option (Int32 × SS) := f_X3_sideOf_2 FU v0 v1 (0 : Int32) σ
set_option maxRecDepth 20000 in
theorem t_X3_sideOf {d : Nat} {b : Nat × Nat} {v0 : Nat} {v1 : Int32} {σ : SS} {r : Int32} {σ' : SS} (h : f_X3_sideOf v0 v1 σ = some (r, σ')) : MM d b mi_X3_sideOf [vR 17 v0, vI v1] σ (some (vI r), σ') := by
  refine MM.of (lv := [some (vR 17 v0), some (vI v1), none]) (by decide +kernel) rfl rfl (fun X Y => ?_)
  rw [f_X3_sideOf] at h
  refine r_iconst (pc' := 1) d_X3_sideOf_0 ci_0 rfl ?_
  refine r_istore_n (pc' := 2) d_X3_sideOf_1 rfl rfl rfl rfl ?_
  exact WM.drop [] rfl (t_X3_sideOf_2 _ _ _ _ _ h)
/-! OctagonYard$Octagon.common(ILOctagonYard$Octagon;)I -/
def mi_X3_common : MI := (yX3_common, cX3_common, 7, (some .int))
theorem d_X3_common_0 : decode mi_X3_common.2.1 0 = .ok (.aload_n 0, 1) := by decide +kernel
theorem d_X3_common_1 : decode mi_X3_common.2.1 1 = .ok (.iload_n 1, 1) := by decide +kernel
theorem d_X3_common_2 : decode mi_X3_common.2.1 2 = .ok (.invokevirtual 78, 3) := by decide +kernel
theorem d_X3_common_5 : decode mi_X3_common.2.1 5 = .ok (.istore_n 3, 1) := by decide +kernel
theorem d_X3_common_6 : decode mi_X3_common.2.1 6 = .ok (.aload_n 2, 1) := by decide +kernel
theorem d_X3_common_7 : decode mi_X3_common.2.1 7 = .ok (.iload_n 1, 1) := by decide +kernel
theorem d_X3_common_8 : decode mi_X3_common.2.1 8 = .ok (.invokestatic 51, 3) := by decide +kernel
theorem d_X3_common_11 : decode mi_X3_common.2.1 11 = .ok (.invokevirtual 78, 3) := by decide +kernel
theorem d_X3_common_14 : decode mi_X3_common.2.1 14 = .ok (.istore 4, 2) := by decide +kernel
theorem d_X3_common_16 : decode mi_X3_common.2.1 16 = .ok (.iload_n 3, 1) := by decide +kernel
theorem d_X3_common_17 : decode mi_X3_common.2.1 17 = .ok (.bipush (-4), 2) := by decide +kernel
theorem d_X3_common_19 : decode mi_X3_common.2.1 19 = .ok (.if_icmp .eq 29, 3) := by decide +kernel
theorem d_X3_common_22 : decode mi_X3_common.2.1 22 = .ok (.iload 4, 2) := by decide +kernel
theorem d_X3_common_24 : decode mi_X3_common.2.1 24 = .ok (.bipush (-4), 2) := by decide +kernel
theorem d_X3_common_26 : decode mi_X3_common.2.1 26 = .ok (.if_icmp .eq 22, 3) := by decide +kernel
theorem d_X3_common_29 : decode mi_X3_common.2.1 29 = .ok (.aload_n 0, 1) := by decide +kernel
theorem d_X3_common_30 : decode mi_X3_common.2.1 30 = .ok (.getfield 9, 3) := by decide +kernel
theorem d_X3_common_33 : decode mi_X3_common.2.1 33 = .ok (.iload_n 1, 1) := by decide +kernel
theorem d_X3_common_34 : decode mi_X3_common.2.1 34 = .ok (.iaload, 1) := by decide +kernel
theorem d_X3_common_35 : decode mi_X3_common.2.1 35 = .ok (.aload_n 2, 1) := by decide +kernel
theorem d_X3_common_36 : decode mi_X3_common.2.1 36 = .ok (.getfield 9, 3) := by decide +kernel
theorem d_X3_common_39 : decode mi_X3_common.2.1 39 = .ok (.iload_n 1, 1) := by decide +kernel
theorem d_X3_common_40 : decode mi_X3_common.2.1 40 = .ok (.invokestatic 51, 3) := by decide +kernel
theorem d_X3_common_43 : decode mi_X3_common.2.1 43 = .ok (.iaload, 1) := by decide +kernel
theorem d_X3_common_44 : decode mi_X3_common.2.1 44 = .ok (.iadd, 1) := by decide +kernel
theorem d_X3_common_45 : decode mi_X3_common.2.1 45 = .ok (.ifCond .eq 5, 3) := by decide +kernel
theorem d_X3_common_48 : decode mi_X3_common.2.1 48 = .ok (.iconst 0, 1) := by decide +kernel
theorem d_X3_common_49 : decode mi_X3_common.2.1 49 = .ok (.ireturn, 1) := by decide +kernel
theorem d_X3_common_50 : decode mi_X3_common.2.1 50 = .ok (.aload_n 0, 1) := by decide +kernel
theorem d_X3_common_51 : decode mi_X3_common.2.1 51 = .ok (.iload_n 3, 1) := by decide +kernel
theorem d_X3_common_52 : decode mi_X3_common.2.1 52 = .ok (.invokevirtual 81, 3) := by decide +kernel
theorem d_X3_common_55 : decode mi_X3_common.2.1 55 = .ok (.aload_n 2, 1) := by decide +kernel
theorem d_X3_common_56 : decode mi_X3_common.2.1 56 = .ok (.iload 4, 2) := by decide +kernel
theorem d_X3_common_58 : decode mi_X3_common.2.1 58 = .ok (.invokevirtual 81, 3) := by decide +kernel
theorem d_X3_common_61 : decode mi_X3_common.2.1 61 = .ok (.invokestatic 84, 3) := by decide +kernel
theorem d_X3_common_64 : decode mi_X3_common.2.1 64 = .ok (.istore 5, 2) := by decide +kernel
theorem d_X3_common_66 : decode mi_X3_common.2.1 66 = .ok (.aload_n 0, 1) := by decide +kernel
theorem d_X3_common_67 : decode mi_X3_common.2.1 67 = .ok (.iload_n 3, 1) := by decide +kernel
theorem d_X3_common_68 : decode mi_X3_common.2.1 68 = .ok (.invokevirtual 87, 3) := by decide +kernel
theorem d_X3_common_71 : decode mi_X3_common.2.1 71 = .ok (.aload_n 2, 1) := by decide +kernel
theorem d_X3_common_72 : decode mi_X3_common.2.1 72 = .ok (.iload 4, 2) := by decide +kernel
theorem d_X3_common_74 : decode mi_X3_common.2.1 74 = .ok (.invokevirtual 87, 3) := by decide +kernel
theorem d_X3_common_77 : decode mi_X3_common.2.1 77 = .ok (.invokestatic 90, 3) := by decide +kernel
theorem d_X3_common_80 : decode mi_X3_common.2.1 80 = .ok (.istore 6, 2) := by decide +kernel
theorem d_X3_common_82 : decode mi_X3_common.2.1 82 = .ok (.iconst 0, 1) := by decide +kernel
theorem d_X3_common_83 : decode mi_X3_common.2.1 83 = .ok (.iload 6, 2) := by decide +kernel
theorem d_X3_common_85 : decode mi_X3_common.2.1 85 = .ok (.iload 5, 2) := by decide +kernel
theorem d_X3_common_87 : decode mi_X3_common.2.1 87 = .ok (.isub, 1) := by decide +kernel
theorem d_X3_common_88 : decode mi_X3_common.2.1 88 = .ok (.invokestatic 84, 3) := by decide +kernel
theorem d_X3_common_91 : decode mi_X3_common.2.1 91 = .ok (.ireturn, 1) := by decide +kernel
theorem cw_X3_78 : CV RX3 78 mi_X3_sideOf 1 := by unfold CV; decide +kernel
theorem cw_X3_81 : CV RX3 81 mi_X3_lowEnd 1 := by unfold CV; decide +kernel
theorem cw_X3_87 : CV RX3 87 mi_X3_highEnd 1 := by unfold CV; decide +kernel
def f_X3_common (v0 : Nat) (v1 : Int32) (v2 : Nat) (σ : SS) : Option (Int32 × SS) := cal (f_X3_sideOf v0 v1 σ) (fun x2 s1 => cal (f_X7_opposite v1 s1) (fun x4 s3 => cal (f_X3_sideOf v2 x4 s3) (fun x6 s5 => if x2 = (-4 : Int32) then (some ((0 : Int32), s5)) else (if x6 = (-4 : Int32) then (some ((0 : Int32), s5)) else (chk (inr v1 8) (cal (f_X7_opposite v1 s5) (fun x8 s7 => chk (inr x8 8) (if ((s5.1 18 v0 (ix v1)) + (s7.1 18 v2 (ix x8))) = 0 then (cal (f_X3_lowEnd v0 x2 s7) (fun x10 s9 => cal (f_X3_lowEnd v2 x6 s9) (fun x12 s11 => lt_ (if x10 < x12 then x12 else x10) (fun x13 => cal (f_X3_highEnd v0 x2 s11) (fun x15 s14 => cal (f_X3_highEnd v2 x6 s14) (fun x17 s16 => lt_ (if x17 < x15 then x17 else x15) (fun x18 => some ((if (0 : Int32) < (x18 - x13) then (x18 - x13) else (0 : Int32)), s16)))))))) else (some ((0 : Int32), s7))))))))))
set_option maxRecDepth 20000 in
theorem t_X3_common {d : Nat} {b : Nat × Nat} {v0 : Nat} {v1 : Int32} {v2 : Nat} {σ : SS} {r : Int32} {σ' : SS} (h : f_X3_common v0 v1 v2 σ = some (r, σ')) : MM (d + 2) b mi_X3_common [vR 17 v0, vI v1, vR 17 v2] σ (some (vI r), σ') := by
  refine MM.of (lv := [some (vR 17 v0), some (vI v1), some (vR 17 v2), none, none, none, none]) (by decide +kernel) rfl rfl (fun X Y => ?_)
  rw [f_X3_common] at h
  refine r_aload_n (pc' := 1) d_X3_common_0 rfl rfl rfl ?_
  refine r_iload_n (pc' := 2) d_X3_common_1 rfl rfl rfl ?_
  refine v1_i (mc := mi_X3_sideOf) (bc := (0, 0)) (b' := _) (pc' := 5) cw_X3_78 d_X3_common_2 rfl rfl rfl (Nat.zero_add _).symm (Nat.zero_add _).symm rfl h (fun _ _ e => t_X3_sideOf e) (fun x2 s1 h => ?_)
  refine r_istore_n (pc' := 6) d_X3_common_5 rfl rfl rfl rfl ?_
  refine r_aload_n (pc' := 7) d_X3_common_6 rfl rfl rfl ?_
  refine r_iload_n (pc' := 8) d_X3_common_7 rfl rfl rfl ?_
  refine n1_i (mc := mi_X7_opposite) (bc := (0, 0)) (b' := _) (pc' := 11) cw_X3_51 d_X3_common_8 rfl (Nat.zero_add _).symm (Nat.zero_add _).symm rfl h (fun _ _ e => t_X7_opposite e) (fun x4 s3 h => ?_)
  refine v1_i (mc := mi_X3_sideOf) (bc := (0, 0)) (b' := _) (pc' := 14) cw_X3_78 d_X3_common_11 rfl rfl rfl (Nat.zero_add _).symm (Nat.zero_add _).symm rfl h (fun _ _ e => t_X3_sideOf e) (fun x6 s5 h => ?_)
  refine r_istore (pc' := 16) d_X3_common_14 rfl rfl rfl ?_
  refine r_iload_n (pc' := 17) d_X3_common_16 rfl rfl rfl ?_
  refine r_bipush (pc' := 19) d_X3_common_17 cb_m4 rfl ?_
  refine r_icmp_eq (pcT := 48) (pc' := 22) d_X3_common_19 rfl rfl h (fun _ h => ?_) (fun _ h => ?_)
  · refine r_iconst (pc' := 49) d_X3_common_48 ci_0 rfl ?_
    exact r_iret d_X3_common_49 rfl h
  · refine r_iload (pc' := 24) d_X3_common_22 rfl rfl ?_
    refine r_bipush (pc' := 26) d_X3_common_24 cb_m4 rfl ?_
    refine r_icmp_eq (pcT := 48) (pc' := 29) d_X3_common_26 rfl rfl h (fun _ h => ?_) (fun _ h => ?_)
    · refine r_iconst (pc' := 49) d_X3_common_48 ci_0 rfl ?_
      exact r_iret d_X3_common_49 rfl h
    · refine r_aload_n (pc' := 30) d_X3_common_29 rfl rfl rfl ?_
      refine r_get (v := vR 18 _) (pc' := 33) fl_X3_9 d_X3_common_30 rfl rfl (fun g => Or.inl ⟨rfl, g.2⟩) rfl ?_
      refine r_iload_n (pc' := 34) d_X3_common_33 rfl rfl rfl ?_
      refine r_iaload (pc' := 35) d_X3_common_34 rfl (fun _ => rfl) rfl h (fun h => ?_)
      refine r_aload_n (pc' := 36) d_X3_common_35 rfl rfl rfl ?_
      refine r_get (v := vR 18 _) (pc' := 39) fl_X3_9 d_X3_common_36 rfl rfl (fun g => Or.inl ⟨rfl, g.2⟩) rfl ?_
      refine r_iload_n (pc' := 40) d_X3_common_39 rfl rfl rfl ?_
      refine n1_i (mc := mi_X7_opposite) (bc := (0, 0)) (b' := _) (pc' := 43) cw_X3_51 d_X3_common_40 rfl (Nat.zero_add _).symm (Nat.zero_add _).symm rfl h (fun _ _ e => t_X7_opposite e) (fun x8 s7 h => ?_)
      refine r_iaload (pc' := 44) d_X3_common_43 rfl (fun _ => rfl) rfl h (fun h => ?_)
      refine r_iadd (pc' := 45) d_X3_common_44 rfl ?_
      refine r_if_eq (pcT := 50) (pc' := 48) d_X3_common_45 rfl rfl h (fun _ h => ?_) (fun _ h => ?_)
      · refine r_aload_n (pc' := 51) d_X3_common_50 rfl rfl rfl ?_
        refine r_iload_n (pc' := 52) d_X3_common_51 rfl rfl rfl ?_
        refine v1_i (mc := mi_X3_lowEnd) (bc := (0, 0)) (b' := _) (pc' := 55) cw_X3_81 d_X3_common_52 rfl rfl rfl (Nat.zero_add _).symm (Nat.zero_add _).symm rfl h (fun _ _ e => t_X3_lowEnd e) (fun x10 s9 h => ?_)
        refine r_aload_n (pc' := 56) d_X3_common_55 rfl rfl rfl ?_
        refine r_iload (pc' := 58) d_X3_common_56 rfl rfl ?_
        refine v1_i (mc := mi_X3_lowEnd) (bc := (0, 0)) (b' := _) (pc' := 61) cw_X3_81 d_X3_common_58 rfl rfl rfl (Nat.zero_add _).symm (Nat.zero_add _).symm rfl h (fun _ _ e => t_X3_lowEnd e) (fun x12 s11 h => ?_)
        refine r_mmax (pc' := 64) cx_X3_84 d_X3_common_61 rfl rfl ?_
        refine l_istore (pc' := 66) d_X3_common_64 rfl rfl rfl h (fun x13 h => ?_)
        refine r_aload_n (pc' := 67) d_X3_common_66 rfl rfl rfl ?_
        refine r_iload_n (pc' := 68) d_X3_common_67 rfl rfl rfl ?_
        refine v1_i (mc := mi_X3_highEnd) (bc := (0, 0)) (b' := _) (pc' := 71) cw_X3_87 d_X3_common_68 rfl rfl rfl (Nat.zero_add _).symm (Nat.zero_add _).symm rfl h (fun _ _ e => t_X3_highEnd e) (fun x15 s14 h => ?_)
        refine r_aload_n (pc' := 72) d_X3_common_71 rfl rfl rfl ?_
        refine r_iload (pc' := 74) d_X3_common_72 rfl rfl ?_
        refine v1_i (mc := mi_X3_highEnd) (bc := (0, 0)) (b' := _) (pc' := 77) cw_X3_87 d_X3_common_74 rfl rfl rfl (Nat.zero_add _).symm (Nat.zero_add _).symm rfl h (fun _ _ e => t_X3_highEnd e) (fun x17 s16 h => ?_)
        refine r_mmin (pc' := 80) cx_X3_90 d_X3_common_77 rfl rfl ?_
        refine l_istore (pc' := 82) d_X3_common_80 rfl rfl rfl h (fun x18 h => ?_)
        refine r_iconst (pc' := 83) d_X3_common_82 ci_0 rfl ?_
        refine r_iload (pc' := 85) d_X3_common_83 rfl rfl ?_
        refine r_iload (pc' := 87) d_X3_common_85 rfl rfl ?_
        refine r_isub (pc' := 88) d_X3_common_87 rfl ?_
        refine r_mmax (pc' := 91) cx_X3_84 d_X3_common_88 rfl rfl ?_
        exact r_iret d_X3_common_91 rfl h
      · refine r_iconst (pc' := 49) d_X3_common_48 ci_0 rfl ?_
        exact r_iret d_X3_common_49 rfl h
/-! OctagonYard$Octagon.directionTo(LOctagonYard$Octagon;)I -/
def mi_X3_directionTo : MI := (yX3_directionTo, cX3_directionTo, 3, (some .int))
theorem d_X3_directionTo_0 : decode mi_X3_directionTo.2.1 0 = .ok (.iconst 0, 1) := by decide +kernel
theorem d_X3_directionTo_1 : decode mi_X3_directionTo.2.1 1 = .ok (.istore_n 2, 1) := by decide +kernel
theorem d_X3_directionTo_2 : decode mi_X3_directionTo.2.1 2 = .ok (.iload_n 2, 1) := by decide +kernel
theorem d_X3_directionTo_3 : decode mi_X3_directionTo.2.1 3 = .ok (.aload_n 0, 1) := by decide +kernel
theorem d_X3_directionTo_4 : decode mi_X3_directionTo.2.1 4 = .ok (.getfield 54, 3) := by decide +kernel
theorem d_X3_directionTo_7 : decode mi_X3_directionTo.2.1 7 = .ok (.if_icmp .ge 30, 3) := by decide +kernel
theorem d_X3_directionTo_10 : decode mi_X3_directionTo.2.1 10 = .ok (.aload_n 0, 1) := by decide +kernel
theorem d_X3_directionTo_11 : decode mi_X3_directionTo.2.1 11 = .ok (.aload_n 0, 1) := by decide +kernel
theorem d_X3_directionTo_12 : decode mi_X3_directionTo.2.1 12 = .ok (.getfield 21, 3) := by decide +kernel
theorem d_X3_directionTo_15 : decode mi_X3_directionTo.2.1 15 = .ok (.iload_n 2, 1) := by decide +kernel
theorem d_X3_directionTo_16 : decode mi_X3_directionTo.2.1 16 = .ok (.iaload, 1) := by decide +kernel
theorem d_X3_directionTo_17 : decode mi_X3_directionTo.2.1 17 = .ok (.aload_n 1, 1) := by decide +kernel
theorem d_X3_directionTo_18 : decode mi_X3_directionTo.2.1 18 = .ok (.invokevirtual 74, 3) := by decide +kernel
theorem d_X3_directionTo_21 : decode mi_X3_directionTo.2.1 21 = .ok (.ifCond .le 10, 3) := by decide +kernel
theorem d_X3_directionTo_24 : decode mi_X3_directionTo.2.1 24 = .ok (.aload_n 0, 1) := by decide +kernel
theorem d_X3_directionTo_25 : decode mi_X3_directionTo.2.1 25 = .ok (.getfield 21, 3) := by decide +kernel
theorem d_X3_directionTo_28 : decode mi_X3_directionTo.2.1 28 = .ok (.iload_n 2, 1) := by decide +kernel
theorem d_X3_directionTo_29 : decode mi_X3_directionTo.2.1 29 = .ok (.iaload, 1) := by decide +kernel
theorem d_X3_directionTo_30 : decode mi_X3_directionTo.2.1 30 = .ok (.ireturn, 1) := by decide +kernel
theorem d_X3_directionTo_31 : decode mi_X3_directionTo.2.1 31 = .ok (.iinc 2 1, 3) := by decide +kernel
theorem d_X3_directionTo_34 : decode mi_X3_directionTo.2.1 34 = .ok (.goto (-32), 3) := by decide +kernel
theorem d_X3_directionTo_37 : decode mi_X3_directionTo.2.1 37 = .ok (.bipush (-4), 2) := by decide +kernel
theorem d_X3_directionTo_39 : decode mi_X3_directionTo.2.1 39 = .ok (.ireturn, 1) := by decide +kernel
theorem cw_X3_74 : CV RX3 74 mi_X3_common 2 := by unfold CV; decide +kernel
def f_X3_directionTo_24 (v0 : Nat) (v2 : Int32) (σ : SS) : Option (Int32 × SS) := chk (inr v2 8) (some ((σ.1 21 v0 (ix v2)), σ))
set_option maxRecDepth 20000 in
theorem t_X3_directionTo_24 {d : Nat} {X : MX} {Y : MY} {b : Nat × Nat} {r : Int32} {σ' : SS} {v0 : Nat} {v2 : Int32} {σ : SS} (h : f_X3_directionTo_24 v0 v2 σ = some (r, σ')) : WM (d + 3) X Y b mi_X3_directionTo 24 [some (vR 17 v0), none, some (vI v2)] [] σ (some (vI r), σ') := by
  rw [f_X3_directionTo_24] at h
  refine r_aload_n (pc' := 25) d_X3_directionTo_24 rfl rfl rfl ?_
  refine r_get (v := vR 21 _) (pc' := 28) fl_X3_21 d_X3_directionTo_25 rfl rfl (fun g => Or.inl ⟨rfl, g.2⟩) rfl ?_
  refine r_iload_n (pc' := 29) d_X3_directionTo_28 rfl rfl rfl ?_
  refine r_iaload (pc' := 30) d_X3_directionTo_29 rfl (fun _ => rfl) rfl h (fun h => ?_)
  exact r_iret d_X3_directionTo_30 rfl h
def f_X3_directionTo_2 : Nat → Nat → Nat → Int32 → SS → Option (Int32 × SS)
  | 0, _, _, _, _ => none
  | n + 1, v0, v1, v2, σ => if (σ.1 17 v0 4) ≤ v2 then (some ((-4 : Int32), σ)) else (chk (inr v2 8) (cal (f_X3_common v0 (σ.1 21 v0 (ix v2)) v1 σ) (fun x2 s1 => if x2 ≤ 0 then (lt_ (v2 + (1 : Int32)) (fun x3 => f_X3_directionTo_2 n v0 v1 x3 s1)) else (f_X3_directionTo_24 v0 v2 s1))))
set_option maxRecDepth 20000 in
theorem t_X3_directionTo_2 {d : Nat} {X : MX} {Y : MY} {b : Nat × Nat} {r : Int32} {σ' : SS} : ∀ (n : Nat) (v0 : Nat) (v1 : Nat) (v2 : Int32) (σ : SS), f_X3_directionTo_2 n v0 v1 v2 σ = some (r, σ') → WM (d + 3) X Y b mi_X3_directionTo 2 [some (vR 17 v0), some (vR 17 v1), some (vI v2)] [] σ (some (vI r), σ') := by
  intro n
  induction n with
  | zero => intro _ _ _ σ h; cases h
  | succ n ih =>
    intro v0 v1 v2 σ h
    rw [f_X3_directionTo_2] at h
    refine r_iload_n (pc' := 3) d_X3_directionTo_2 rfl rfl rfl ?_
    refine r_aload_n (pc' := 4) d_X3_directionTo_3 rfl rfl rfl ?_
    refine r_get (v := vI _) (pc' := 7) fl_X3_54 d_X3_directionTo_4 rfl rfl (fun _ => trivial) rfl ?_
    refine r_icmp_ge (pcT := 37) (pc' := 10) d_X3_directionTo_7 rfl rfl h (fun _ h => ?_) (fun _ h => ?_)
    · refine r_bipush (pc' := 39) d_X3_directionTo_37 cb_m4 rfl ?_
      exact r_iret d_X3_directionTo_39 rfl h
    · refine r_aload_n (pc' := 11) d_X3_directionTo_10 rfl rfl rfl ?_
      refine r_aload_n (pc' := 12) d_X3_directionTo_11 rfl rfl rfl ?_
      refine r_get (v := vR 21 _) (pc' := 15) fl_X3_21 d_X3_directionTo_12 rfl rfl (fun g => Or.inl ⟨rfl, g.2⟩) rfl ?_
      refine r_iload_n (pc' := 16) d_X3_directionTo_15 rfl rfl rfl ?_
      refine r_iaload (pc' := 17) d_X3_directionTo_16 rfl (fun _ => rfl) rfl h (fun h => ?_)
      refine r_aload_n (pc' := 18) d_X3_directionTo_17 rfl rfl rfl ?_
      refine v2_i (mc := mi_X3_common) (bc := (0, 0)) (b' := _) (pc' := 21) cw_X3_74 d_X3_directionTo_18 rfl rfl rfl (Nat.zero_add _).symm (Nat.zero_add _).symm rfl h (fun _ _ e => t_X3_common e) (fun x2 s1 h => ?_)
      refine r_if_le (pcT := 31) (pc' := 24) d_X3_directionTo_21 rfl rfl h (fun _ h => ?_) (fun _ h => ?_)
      · refine l_iinc (pc' := 34) d_X3_directionTo_31 rfl ci_1 rfl rfl rfl h (fun x3 h => ?_)
        refine r_goto (pc' := 2) d_X3_directionTo_34 rfl ?_
        exact WM.drop [] rfl (ih _ _ _ _ h)
      · exact WM.drop [1] rfl (t_X3_directionTo_24 h)
def f_X3_directionTo (v0 : Nat) (v1 : Nat) (σ : SS) : Option (Int32 × SS) := f_X3_directionTo_2 FU v0 v1 (0 : Int32) σ
set_option maxRecDepth 20000 in
theorem t_X3_directionTo {d : Nat} {b : Nat × Nat} {v0 : Nat} {v1 : Nat} {σ : SS} {r : Int32} {σ' : SS} (h : f_X3_directionTo v0 v1 σ = some (r, σ')) : MM (d + 3) b mi_X3_directionTo [vR 17 v0, vR 17 v1] σ (some (vI r), σ') := by
  refine MM.of (lv := [some (vR 17 v0), some (vR 17 v1), none]) (by decide +kernel) rfl rfl (fun X Y => ?_)
  rw [f_X3_directionTo] at h
  refine r_iconst (pc' := 1) d_X3_directionTo_0 ci_0 rfl ?_
  refine r_istore_n (pc' := 2) d_X3_directionTo_1 rfl rfl rfl rfl ?_
  exact WM.drop [] rfl (t_X3_directionTo_2 _ _ _ _ _ h)
