/-! OctagonYardModel.isAssembly(I)Z -/
def mi_X8_isAssembly : MI := (yX8_isAssembly, cX8_isAssembly, 2, (some .boolean))
theorem d_X8_isAssembly_0 : decode mi_X8_isAssembly.2.1 0 = .ok (.iload_n 1, 1) := by decide +kernel
theorem d_X8_isAssembly_1 : decode mi_X8_isAssembly.2.1 1 = .ok (.i2l, 1) := by decide +kernel
theorem d_X8_isAssembly_2 : decode mi_X8_isAssembly.2.1 2 = .ok (.lconst 0, 1) := by decide +kernel
theorem d_X8_isAssembly_3 : decode mi_X8_isAssembly.2.1 3 = .ok (.aload_n 0, 1) := by decide +kernel
theorem d_X8_isAssembly_4 : decode mi_X8_isAssembly.2.1 4 = .ok (.getfield 285, 3) := by decide +kernel
theorem d_X8_isAssembly_7 : decode mi_X8_isAssembly.2.1 7 = .ok (.iconst 1, 1) := by decide +kernel
theorem d_X8_isAssembly_8 : decode mi_X8_isAssembly.2.1 8 = .ok (.isub, 1) := by decide +kernel
theorem d_X8_isAssembly_9 : decode mi_X8_isAssembly.2.1 9 = .ok (.i2l, 1) := by decide +kernel
theorem d_X8_isAssembly_10 : decode mi_X8_isAssembly.2.1 10 = .ok (.invokestatic 139, 3) := by decide +kernel
theorem d_X8_isAssembly_13 : decode mi_X8_isAssembly.2.1 13 = .ok (.ireturn, 1) := by decide +kernel
def f_X8_isAssembly (v1 : Int32) (σ : SS) : Option (Int32 × SS) := cal (f_X8_in (Int32.toInt64 v1) (0 : Int64) (Int32.toInt64 ((σ.1 25 0 41) - (1 : Int32))) σ) (fun x2 s1 => chk (x2 = 0 ∨ x2 = 1) (some (x2, s1)))
set_option maxRecDepth 20000 in
theorem t_X8_isAssembly {d : Nat} {b : Nat × Nat} {v1 : Int32} {σ : SS} {r : Int32} {σ' : SS} (h : f_X8_isAssembly v1 σ = some (r, σ')) : MM (d + 1) b mi_X8_isAssembly [vR 25 0, vI v1] σ (some (vI r), σ') := by
  refine MM.of (lv := [some (vR 25 0), some (vI v1)]) (by decide +kernel) rfl rfl (fun X Y => ?_)
  rw [f_X8_isAssembly] at h
  refine r_iload_n (pc' := 1) d_X8_isAssembly_0 rfl rfl rfl ?_
  refine r_i2l (pc' := 2) d_X8_isAssembly_1 rfl ?_
  refine r_lconst (pc' := 3) (x := 0) d_X8_isAssembly_2 rfl rfl ?_
  refine r_aload_n (pc' := 4) d_X8_isAssembly_3 rfl rfl rfl ?_
  refine r_get (v := vI _) (pc' := 7) fl_X8_285 d_X8_isAssembly_4 rfl rfl (fun _ => trivial) rfl ?_
  refine r_iconst (pc' := 8) d_X8_isAssembly_7 ci_1 rfl ?_
  refine r_isub (pc' := 9) d_X8_isAssembly_8 rfl ?_
  refine r_i2l (pc' := 10) d_X8_isAssembly_9 rfl ?_
  refine s3_i (mc := mi_X8_in) (bc := (0, 0)) (b' := _) (pc' := 13) cw_X8_139 d_X8_isAssembly_10 rfl (Nat.zero_add _).symm (Nat.zero_add _).symm rfl h (fun _ _ e => t_X8_in e) (fun x2 s1 h => ?_)
  obtain ⟨z3, h⟩ := chk_t h
  exact r_zret d_X8_isAssembly_13 rfl z3 h
/-! OctagonYardModel.assembly()I -/
def mi_X8_assembly : MI := (yX8_assembly, cX8_assembly, 1, (some .int))
theorem d_X8_assembly_0 : decode mi_X8_assembly.2.1 0 = .ok (.aload_n 0, 1) := by decide +kernel
theorem d_X8_assembly_1 : decode mi_X8_assembly.2.1 1 = .ok (.getfield 285, 3) := by decide +kernel
theorem d_X8_assembly_4 : decode mi_X8_assembly.2.1 4 = .ok (.bipush 12, 2) := by decide +kernel
theorem d_X8_assembly_6 : decode mi_X8_assembly.2.1 6 = .ok (.if_icmp .ne 6, 3) := by decide +kernel
theorem d_X8_assembly_9 : decode mi_X8_assembly.2.1 9 = .ok (.bipush (-3), 2) := by decide +kernel
theorem d_X8_assembly_11 : decode mi_X8_assembly.2.1 11 = .ok (.ireturn, 1) := by decide +kernel
theorem d_X8_assembly_12 : decode mi_X8_assembly.2.1 12 = .ok (.aload_n 0, 1) := by decide +kernel
theorem d_X8_assembly_13 : decode mi_X8_assembly.2.1 13 = .ok (.getfield 110, 3) := by decide +kernel
theorem d_X8_assembly_16 : decode mi_X8_assembly.2.1 16 = .ok (.aload_n 0, 1) := by decide +kernel
theorem d_X8_assembly_17 : decode mi_X8_assembly.2.1 17 = .ok (.getfield 285, 3) := by decide +kernel
theorem d_X8_assembly_20 : decode mi_X8_assembly.2.1 20 = .ok (.iconst 0, 1) := by decide +kernel
theorem d_X8_assembly_21 : decode mi_X8_assembly.2.1 21 = .ok (.iastore, 1) := by decide +kernel
theorem d_X8_assembly_22 : decode mi_X8_assembly.2.1 22 = .ok (.aload_n 0, 1) := by decide +kernel
theorem d_X8_assembly_23 : decode mi_X8_assembly.2.1 23 = .ok (.dup, 1) := by decide +kernel
theorem d_X8_assembly_24 : decode mi_X8_assembly.2.1 24 = .ok (.getfield 285, 3) := by decide +kernel
theorem d_X8_assembly_27 : decode mi_X8_assembly.2.1 27 = .ok (.iconst 1, 1) := by decide +kernel
theorem d_X8_assembly_28 : decode mi_X8_assembly.2.1 28 = .ok (.iadd, 1) := by decide +kernel
theorem d_X8_assembly_29 : decode mi_X8_assembly.2.1 29 = .ok (.putfield 285, 3) := by decide +kernel
theorem d_X8_assembly_32 : decode mi_X8_assembly.2.1 32 = .ok (.aload_n 0, 1) := by decide +kernel
theorem d_X8_assembly_33 : decode mi_X8_assembly.2.1 33 = .ok (.getfield 285, 3) := by decide +kernel
theorem d_X8_assembly_36 : decode mi_X8_assembly.2.1 36 = .ok (.iconst 1, 1) := by decide +kernel
theorem d_X8_assembly_37 : decode mi_X8_assembly.2.1 37 = .ok (.isub, 1) := by decide +kernel
theorem d_X8_assembly_38 : decode mi_X8_assembly.2.1 38 = .ok (.ireturn, 1) := by decide +kernel
theorem fw_8_41 : FW 8 49 41 .int := ⟨RX8, TX8, tyX8, rfl, rfl, by decide +kernel, tyX8_ok, nmX8⟩
def f_X8_assembly (σ : SS) : Option (Int32 × SS) := if (σ.1 25 0 41) = (12 : Int32) then (some ((-3 : Int32), σ)) else (chk (inr (σ.1 25 0 41) 12) (lt_ (up σ 82 0 (ix (σ.1 25 0 41)) (0 : Int32)) (fun s1 => lt_ (up s1 25 0 41 ((s1.1 25 0 41) + (1 : Int32))) (fun s2 => some (((s2.1 25 0 41) - (1 : Int32)), s2)))))
set_option maxRecDepth 20000 in
theorem t_X8_assembly {d : Nat} {b : Nat × Nat} {σ : SS} {r : Int32} {σ' : SS} (h : f_X8_assembly σ = some (r, σ')) : MM d b mi_X8_assembly [vR 25 0] σ (some (vI r), σ') := by
  refine MM.of (lv := [some (vR 25 0)]) (by decide +kernel) rfl rfl (fun X Y => ?_)
  rw [f_X8_assembly] at h
  refine r_aload_n (pc' := 1) d_X8_assembly_0 rfl rfl rfl ?_
  refine r_get (v := vI _) (pc' := 4) fl_X8_285 d_X8_assembly_1 rfl rfl (fun _ => trivial) rfl ?_
  refine r_bipush (pc' := 6) d_X8_assembly_4 cb_12 rfl ?_
  refine r_icmp_ne (pcT := 12) (pc' := 9) d_X8_assembly_6 rfl rfl h (fun _ h => ?_) (fun _ h => ?_)
  · refine r_bipush (pc' := 11) d_X8_assembly_9 cb_m3 rfl ?_
    exact r_iret d_X8_assembly_11 rfl h
  · refine r_aload_n (pc' := 13) d_X8_assembly_12 rfl rfl rfl ?_
    refine r_get (v := vR 82 _) (pc' := 16) fl_X8_110 d_X8_assembly_13 rfl rfl (fun g => Or.inl ⟨rfl, g.2⟩) rfl ?_
    refine r_aload_n (pc' := 17) d_X8_assembly_16 rfl rfl rfl ?_
    refine r_get (v := vI _) (pc' := 20) fl_X8_285 d_X8_assembly_17 rfl rfl (fun _ => trivial) rfl ?_
    refine r_iconst (pc' := 21) d_X8_assembly_20 ci_0 rfl ?_
    refine l_iastore (pc' := 22) d_X8_assembly_21 rfl (fun _ => rfl) (by decide) (by decide) (fun _ => rfl) rfl h (fun s1 h => ?_)
    refine r_aload_n (pc' := 23) d_X8_assembly_22 rfl rfl rfl ?_
    refine r_dup (pc' := 24) d_X8_assembly_23 rfl rfl ?_
    refine r_get (v := vI _) (pc' := 27) fl_X8_285 d_X8_assembly_24 rfl rfl (fun _ => trivial) rfl ?_
    refine r_iconst (pc' := 28) d_X8_assembly_27 ci_1 rfl ?_
    refine r_iadd (pc' := 29) d_X8_assembly_28 rfl ?_
    refine l_put (k := 41) (pc' := 32) fl_X8_285 fw_8_41 rfl rfl d_X8_assembly_29 rfl (by decide) (by decide) rfl rfl h (fun s2 h => ?_)
    refine r_aload_n (pc' := 33) d_X8_assembly_32 rfl rfl rfl ?_
    refine r_get (v := vI _) (pc' := 36) fl_X8_285 d_X8_assembly_33 rfl rfl (fun _ => trivial) rfl ?_
    refine r_iconst (pc' := 37) d_X8_assembly_36 ci_1 rfl ?_
    refine r_isub (pc' := 38) d_X8_assembly_37 rfl ?_
    exact r_iret d_X8_assembly_38 rfl h
/-! OctagonYardModel.isWithin(II)Z -/
def mi_X8_isWithin : MI := (yX8_isWithin, cX8_isWithin, 6, (some .boolean))
theorem d_X8_isWithin_0 : decode mi_X8_isWithin.2.1 0 = .ok (.iconst 0, 1) := by decide +kernel
theorem d_X8_isWithin_1 : decode mi_X8_isWithin.2.1 1 = .ok (.istore_n 3, 1) := by decide +kernel
theorem d_X8_isWithin_2 : decode mi_X8_isWithin.2.1 2 = .ok (.iload_n 3, 1) := by decide +kernel
theorem d_X8_isWithin_3 : decode mi_X8_isWithin.2.1 3 = .ok (.aload_n 0, 1) := by decide +kernel
theorem d_X8_isWithin_4 : decode mi_X8_isWithin.2.1 4 = .ok (.getfield 285, 3) := by decide +kernel
theorem d_X8_isWithin_7 : decode mi_X8_isWithin.2.1 7 = .ok (.if_icmp .ge 25, 3) := by decide +kernel
theorem d_X8_isWithin_10 : decode mi_X8_isWithin.2.1 10 = .ok (.aload_n 0, 1) := by decide +kernel
theorem d_X8_isWithin_11 : decode mi_X8_isWithin.2.1 11 = .ok (.getfield 122, 3) := by decide +kernel
theorem d_X8_isWithin_14 : decode mi_X8_isWithin.2.1 14 = .ok (.iload_n 3, 1) := by decide +kernel
theorem d_X8_isWithin_15 : decode mi_X8_isWithin.2.1 15 = .ok (.iload_n 3, 1) := by decide +kernel
theorem d_X8_isWithin_16 : decode mi_X8_isWithin.2.1 16 = .ok (.iload_n 2, 1) := by decide +kernel
theorem d_X8_isWithin_17 : decode mi_X8_isWithin.2.1 17 = .ok (.if_icmp .ne 7, 3) := by decide +kernel
theorem d_X8_isWithin_20 : decode mi_X8_isWithin.2.1 20 = .ok (.iconst 1, 1) := by decide +kernel
theorem d_X8_isWithin_21 : decode mi_X8_isWithin.2.1 21 = .ok (.goto 4, 3) := by decide +kernel
theorem d_X8_isWithin_24 : decode mi_X8_isWithin.2.1 24 = .ok (.iconst 0, 1) := by decide +kernel
theorem d_X8_isWithin_25 : decode mi_X8_isWithin.2.1 25 = .ok (.bastore, 1) := by decide +kernel
theorem d_X8_isWithin_26 : decode mi_X8_isWithin.2.1 26 = .ok (.iinc 3 1, 3) := by decide +kernel
theorem d_X8_isWithin_29 : decode mi_X8_isWithin.2.1 29 = .ok (.goto (-27), 3) := by decide +kernel
theorem d_X8_isWithin_32 : decode mi_X8_isWithin.2.1 32 = .ok (.iconst 0, 1) := by decide +kernel
theorem d_X8_isWithin_33 : decode mi_X8_isWithin.2.1 33 = .ok (.istore_n 3, 1) := by decide +kernel
theorem d_X8_isWithin_34 : decode mi_X8_isWithin.2.1 34 = .ok (.iload_n 3, 1) := by decide +kernel
theorem d_X8_isWithin_35 : decode mi_X8_isWithin.2.1 35 = .ok (.aload_n 0, 1) := by decide +kernel
theorem d_X8_isWithin_36 : decode mi_X8_isWithin.2.1 36 = .ok (.getfield 285, 3) := by decide +kernel
theorem d_X8_isWithin_39 : decode mi_X8_isWithin.2.1 39 = .ok (.if_icmp .ge 93, 3) := by decide +kernel
theorem d_X8_isWithin_42 : decode mi_X8_isWithin.2.1 42 = .ok (.iconst 0, 1) := by decide +kernel
theorem d_X8_isWithin_43 : decode mi_X8_isWithin.2.1 43 = .ok (.istore 4, 2) := by decide +kernel
theorem d_X8_isWithin_45 : decode mi_X8_isWithin.2.1 45 = .ok (.iload 4, 2) := by decide +kernel
theorem d_X8_isWithin_47 : decode mi_X8_isWithin.2.1 47 = .ok (.aload_n 0, 1) := by decide +kernel
theorem d_X8_isWithin_48 : decode mi_X8_isWithin.2.1 48 = .ok (.getfield 285, 3) := by decide +kernel
theorem d_X8_isWithin_51 : decode mi_X8_isWithin.2.1 51 = .ok (.if_icmp .ge 75, 3) := by decide +kernel
theorem d_X8_isWithin_54 : decode mi_X8_isWithin.2.1 54 = .ok (.iconst 0, 1) := by decide +kernel
theorem d_X8_isWithin_55 : decode mi_X8_isWithin.2.1 55 = .ok (.istore 5, 2) := by decide +kernel
theorem d_X8_isWithin_57 : decode mi_X8_isWithin.2.1 57 = .ok (.iload 5, 2) := by decide +kernel
theorem d_X8_isWithin_59 : decode mi_X8_isWithin.2.1 59 = .ok (.aload_n 0, 1) := by decide +kernel
theorem d_X8_isWithin_60 : decode mi_X8_isWithin.2.1 60 = .ok (.getfield 110, 3) := by decide +kernel
theorem d_X8_isWithin_63 : decode mi_X8_isWithin.2.1 63 = .ok (.iload 4, 2) := by decide +kernel
theorem d_X8_isWithin_65 : decode mi_X8_isWithin.2.1 65 = .ok (.iaload, 1) := by decide +kernel
theorem d_X8_isWithin_66 : decode mi_X8_isWithin.2.1 66 = .ok (.if_icmp .ge 54, 3) := by decide +kernel
theorem d_X8_isWithin_69 : decode mi_X8_isWithin.2.1 69 = .ok (.aload_n 0, 1) := by decide +kernel
theorem d_X8_isWithin_70 : decode mi_X8_isWithin.2.1 70 = .ok (.getfield 122, 3) := by decide +kernel
theorem d_X8_isWithin_73 : decode mi_X8_isWithin.2.1 73 = .ok (.iload 4, 2) := by decide +kernel
theorem d_X8_isWithin_75 : decode mi_X8_isWithin.2.1 75 = .ok (.baload, 1) := by decide +kernel
theorem d_X8_isWithin_76 : decode mi_X8_isWithin.2.1 76 = .ok (.ifCond .eq 44, 3) := by decide +kernel
theorem d_X8_isWithin_79 : decode mi_X8_isWithin.2.1 79 = .ok (.aload_n 0, 1) := by decide +kernel
theorem d_X8_isWithin_80 : decode mi_X8_isWithin.2.1 80 = .ok (.getfield 116, 3) := by decide +kernel
theorem d_X8_isWithin_83 : decode mi_X8_isWithin.2.1 83 = .ok (.bipush 20, 2) := by decide +kernel
theorem d_X8_isWithin_85 : decode mi_X8_isWithin.2.1 85 = .ok (.iload 4, 2) := by decide +kernel
theorem d_X8_isWithin_87 : decode mi_X8_isWithin.2.1 87 = .ok (.imul, 1) := by decide +kernel
theorem d_X8_isWithin_88 : decode mi_X8_isWithin.2.1 88 = .ok (.iload 5, 2) := by decide +kernel
theorem d_X8_isWithin_90 : decode mi_X8_isWithin.2.1 90 = .ok (.iadd, 1) := by decide +kernel
theorem d_X8_isWithin_91 : decode mi_X8_isWithin.2.1 91 = .ok (.baload, 1) := by decide +kernel
theorem d_X8_isWithin_92 : decode mi_X8_isWithin.2.1 92 = .ok (.ifCond .eq 22, 3) := by decide +kernel
theorem d_X8_isWithin_95 : decode mi_X8_isWithin.2.1 95 = .ok (.aload_n 0, 1) := by decide +kernel
theorem d_X8_isWithin_96 : decode mi_X8_isWithin.2.1 96 = .ok (.getfield 122, 3) := by decide +kernel
theorem d_X8_isWithin_99 : decode mi_X8_isWithin.2.1 99 = .ok (.aload_n 0, 1) := by decide +kernel
theorem d_X8_isWithin_100 : decode mi_X8_isWithin.2.1 100 = .ok (.getfield 113, 3) := by decide +kernel
theorem d_X8_isWithin_103 : decode mi_X8_isWithin.2.1 103 = .ok (.bipush 20, 2) := by decide +kernel
theorem d_X8_isWithin_105 : decode mi_X8_isWithin.2.1 105 = .ok (.iload 4, 2) := by decide +kernel
theorem d_X8_isWithin_107 : decode mi_X8_isWithin.2.1 107 = .ok (.imul, 1) := by decide +kernel
theorem d_X8_isWithin_108 : decode mi_X8_isWithin.2.1 108 = .ok (.iload 5, 2) := by decide +kernel
theorem d_X8_isWithin_110 : decode mi_X8_isWithin.2.1 110 = .ok (.iadd, 1) := by decide +kernel
theorem d_X8_isWithin_111 : decode mi_X8_isWithin.2.1 111 = .ok (.iaload, 1) := by decide +kernel
theorem d_X8_isWithin_112 : decode mi_X8_isWithin.2.1 112 = .ok (.iconst 1, 1) := by decide +kernel
theorem d_X8_isWithin_113 : decode mi_X8_isWithin.2.1 113 = .ok (.bastore, 1) := by decide +kernel
theorem d_X8_isWithin_114 : decode mi_X8_isWithin.2.1 114 = .ok (.iinc 5 1, 3) := by decide +kernel
theorem d_X8_isWithin_117 : decode mi_X8_isWithin.2.1 117 = .ok (.goto (-60), 3) := by decide +kernel
theorem d_X8_isWithin_120 : decode mi_X8_isWithin.2.1 120 = .ok (.iinc 4 1, 3) := by decide +kernel
theorem d_X8_isWithin_123 : decode mi_X8_isWithin.2.1 123 = .ok (.goto (-78), 3) := by decide +kernel
theorem d_X8_isWithin_126 : decode mi_X8_isWithin.2.1 126 = .ok (.iinc 3 1, 3) := by decide +kernel
theorem d_X8_isWithin_129 : decode mi_X8_isWithin.2.1 129 = .ok (.goto (-95), 3) := by decide +kernel
theorem d_X8_isWithin_132 : decode mi_X8_isWithin.2.1 132 = .ok (.aload_n 0, 1) := by decide +kernel
theorem d_X8_isWithin_133 : decode mi_X8_isWithin.2.1 133 = .ok (.getfield 122, 3) := by decide +kernel
theorem d_X8_isWithin_136 : decode mi_X8_isWithin.2.1 136 = .ok (.iload_n 1, 1) := by decide +kernel
theorem d_X8_isWithin_137 : decode mi_X8_isWithin.2.1 137 = .ok (.baload, 1) := by decide +kernel
theorem d_X8_isWithin_138 : decode mi_X8_isWithin.2.1 138 = .ok (.ireturn, 1) := by decide +kernel
theorem fl_X8_122 : FL RX8 122 8 49 46 := ⟨RX8, TX8, rfl, by decide, rfl, by decide +kernel, in_8⟩
def f_X8_isWithin_132 (v1 : Int32) (σ : SS) : Option (Int32 × SS) := chk (inr v1 12) (chk ((σ.1 86 0 (ix v1)) = 0 ∨ (σ.1 86 0 (ix v1)) = 1) (some ((σ.1 86 0 (ix v1)), σ)))
set_option maxRecDepth 20000 in
theorem t_X8_isWithin_132 {d : Nat} {X : MX} {Y : MY} {b : Nat × Nat} {r : Int32} {σ' : SS} {v1 : Int32} {σ : SS} (h : f_X8_isWithin_132 v1 σ = some (r, σ')) : WM d X Y b mi_X8_isWithin 132 [some (vR 25 0), some (vI v1), none, none, none, none] [] σ (some (vI r), σ') := by
  rw [f_X8_isWithin_132] at h
  refine r_aload_n (pc' := 133) d_X8_isWithin_132 rfl rfl rfl ?_
  refine r_get (v := vR 86 _) (pc' := 136) fl_X8_122 d_X8_isWithin_133 rfl rfl (fun g => Or.inl ⟨rfl, g.2⟩) rfl ?_
  refine r_iload_n (pc' := 137) d_X8_isWithin_136 rfl rfl rfl ?_
  refine r_baload (pc' := 138) d_X8_isWithin_137 rfl (fun _ => rfl) rfl h (fun h => ?_)
  obtain ⟨z1, h⟩ := chk_t h
  exact r_zret d_X8_isWithin_138 rfl z1 h
def f_X8_isWithin_126 (K34 : Int32 → Int32 → SS → Option (Int32 × SS)) (v1 : Int32) (v3 : Int32) (σ : SS) : Option (Int32 × SS) := lt_ (v3 + (1 : Int32)) (fun x1 => K34 v1 x1 σ)
set_option maxRecDepth 20000 in
theorem t_X8_isWithin_126 {d : Nat} {X : MX} {Y : MY} {b : Nat × Nat} {r : Int32} {σ' : SS} {K34 : Int32 → Int32 → SS → Option (Int32 × SS)} {v1 : Int32} {v3 : Int32} (hK34 : ∀ (v1 : Int32) (v3 : Int32) (σ : SS), K34 v1 v3 σ = some (r, σ') → WM d X Y b mi_X8_isWithin 34 [some (vR 25 0), some (vI v1), none, some (vI v3), none, none] [] σ (some (vI r), σ')) {σ : SS} (h : f_X8_isWithin_126 K34 v1 v3 σ = some (r, σ')) : WM d X Y b mi_X8_isWithin 126 [some (vR 25 0), some (vI v1), none, some (vI v3), none, none] [] σ (some (vI r), σ') := by
  rw [f_X8_isWithin_126] at h
  refine l_iinc (pc' := 129) d_X8_isWithin_126 rfl ci_1 rfl rfl rfl h (fun x1 h => ?_)
  refine r_goto (pc' := 34) d_X8_isWithin_129 rfl ?_
  exact WM.drop [] rfl (hK34 _ _ _ h)
def f_X8_isWithin_120 (K34 : Int32 → Int32 → SS → Option (Int32 × SS)) (K45 : Int32 → Int32 → Int32 → SS → Option (Int32 × SS)) (v1 : Int32) (v3 : Int32) (v4 : Int32) (σ : SS) : Option (Int32 × SS) := lt_ (v4 + (1 : Int32)) (fun x1 => K45 v1 v3 x1 σ)
set_option maxRecDepth 20000 in
theorem t_X8_isWithin_120 {d : Nat} {X : MX} {Y : MY} {b : Nat × Nat} {r : Int32} {σ' : SS} {K34 : Int32 → Int32 → SS → Option (Int32 × SS)} {K45 : Int32 → Int32 → Int32 → SS → Option (Int32 × SS)} {v1 : Int32} {v3 : Int32} {v4 : Int32} (hK34 : ∀ (v1 : Int32) (v3 : Int32) (σ : SS), K34 v1 v3 σ = some (r, σ') → WM d X Y b mi_X8_isWithin 34 [some (vR 25 0), some (vI v1), none, some (vI v3), none, none] [] σ (some (vI r), σ')) (hK45 : ∀ (v1 : Int32) (v3 : Int32) (v4 : Int32) (σ : SS), K45 v1 v3 v4 σ = some (r, σ') → WM d X Y b mi_X8_isWithin 45 [some (vR 25 0), some (vI v1), none, some (vI v3), some (vI v4), none] [] σ (some (vI r), σ')) {σ : SS} (h : f_X8_isWithin_120 K34 K45 v1 v3 v4 σ = some (r, σ')) : WM d X Y b mi_X8_isWithin 120 [some (vR 25 0), some (vI v1), none, some (vI v3), some (vI v4), none] [] σ (some (vI r), σ') := by
  rw [f_X8_isWithin_120] at h
  refine l_iinc (pc' := 123) d_X8_isWithin_120 rfl ci_1 rfl rfl rfl h (fun x1 h => ?_)
  refine r_goto (pc' := 45) d_X8_isWithin_123 rfl ?_
  exact WM.drop [] rfl (hK45 _ _ _ _ h)
def f_X8_isWithin_114 (K34 : Int32 → Int32 → SS → Option (Int32 × SS)) (K45 : Int32 → Int32 → Int32 → SS → Option (Int32 × SS)) (K57 : Int32 → Int32 → Int32 → Int32 → SS → Option (Int32 × SS)) (v1 : Int32) (v3 : Int32) (v4 : Int32) (v5 : Int32) (σ : SS) : Option (Int32 × SS) := lt_ (v5 + (1 : Int32)) (fun x1 => K57 v1 v3 v4 x1 σ)
set_option maxRecDepth 20000 in
theorem t_X8_isWithin_114 {d : Nat} {X : MX} {Y : MY} {b : Nat × Nat} {r : Int32} {σ' : SS} {K34 : Int32 → Int32 → SS → Option (Int32 × SS)} {K45 : Int32 → Int32 → Int32 → SS → Option (Int32 × SS)} {K57 : Int32 → Int32 → Int32 → Int32 → SS → Option (Int32 × SS)} {v1 : Int32} {v3 : Int32} {v4 : Int32} {v5 : Int32} (hK34 : ∀ (v1 : Int32) (v3 : Int32) (σ : SS), K34 v1 v3 σ = some (r, σ') → WM d X Y b mi_X8_isWithin 34 [some (vR 25 0), some (vI v1), none, some (vI v3), none, none] [] σ (some (vI r), σ')) (hK45 : ∀ (v1 : Int32) (v3 : Int32) (v4 : Int32) (σ : SS), K45 v1 v3 v4 σ = some (r, σ') → WM d X Y b mi_X8_isWithin 45 [some (vR 25 0), some (vI v1), none, some (vI v3), some (vI v4), none] [] σ (some (vI r), σ')) (hK57 : ∀ (v1 : Int32) (v3 : Int32) (v4 : Int32) (v5 : Int32) (σ : SS), K57 v1 v3 v4 v5 σ = some (r, σ') → WM d X Y b mi_X8_isWithin 57 [some (vR 25 0), some (vI v1), none, some (vI v3), some (vI v4), some (vI v5)] [] σ (some (vI r), σ')) {σ : SS} (h : f_X8_isWithin_114 K34 K45 K57 v1 v3 v4 v5 σ = some (r, σ')) : WM d X Y b mi_X8_isWithin 114 [some (vR 25 0), some (vI v1), none, some (vI v3), some (vI v4), some (vI v5)] [] σ (some (vI r), σ') := by
  rw [f_X8_isWithin_114] at h
  refine l_iinc (pc' := 117) d_X8_isWithin_114 rfl ci_1 rfl rfl rfl h (fun x1 h => ?_)
  refine r_goto (pc' := 57) d_X8_isWithin_117 rfl ?_
  exact WM.drop [] rfl (hK57 _ _ _ _ _ h)
def f_X8_isWithin_57 (K34 : Int32 → Int32 → SS → Option (Int32 × SS)) (K45 : Int32 → Int32 → Int32 → SS → Option (Int32 × SS)) : Nat → Int32 → Int32 → Int32 → Int32 → SS → Option (Int32 × SS)
  | 0, _, _, _, _, _ => none
  | n + 1, v1, v3, v4, v5, σ => chk (inr v4 12) (if (σ.1 82 0 (ix v4)) ≤ v5 then (f_X8_isWithin_120 K34 K45 v1 v3 v4 σ) else (chk (inr v4 12) (if (σ.1 86 0 (ix v4)) = 0 then (f_X8_isWithin_120 K34 K45 v1 v3 v4 σ) else (chk (inr (((20 : Int32) * v4) + v5) 240) (if (σ.1 84 0 (ix (((20 : Int32) * v4) + v5))) = 0 then (f_X8_isWithin_114 K34 K45 (f_X8_isWithin_57 K34 K45 n) v1 v3 v4 v5 σ) else (chk (inr (((20 : Int32) * v4) + v5) 240) (chk (inr (σ.1 83 0 (ix (((20 : Int32) * v4) + v5))) 12) (lt_ (up σ 86 0 (ix (σ.1 83 0 (ix (((20 : Int32) * v4) + v5)))) (1 : Int32)) (fun s1 => f_X8_isWithin_114 K34 K45 (f_X8_isWithin_57 K34 K45 n) v1 v3 v4 v5 s1)))))))))
set_option maxRecDepth 20000 in
theorem t_X8_isWithin_57 {d : Nat} {X : MX} {Y : MY} {b : Nat × Nat} {r : Int32} {σ' : SS} {K34 : Int32 → Int32 → SS → Option (Int32 × SS)} {K45 : Int32 → Int32 → Int32 → SS → Option (Int32 × SS)} (hK34 : ∀ (v1 : Int32) (v3 : Int32) (σ : SS), K34 v1 v3 σ = some (r, σ') → WM d X Y b mi_X8_isWithin 34 [some (vR 25 0), some (vI v1), none, some (vI v3), none, none] [] σ (some (vI r), σ')) (hK45 : ∀ (v1 : Int32) (v3 : Int32) (v4 : Int32) (σ : SS), K45 v1 v3 v4 σ = some (r, σ') → WM d X Y b mi_X8_isWithin 45 [some (vR 25 0), some (vI v1), none, some (vI v3), some (vI v4), none] [] σ (some (vI r), σ')) : ∀ (n : Nat) (v1 : Int32) (v3 : Int32) (v4 : Int32) (v5 : Int32) (σ : SS), f_X8_isWithin_57 K34 K45 n v1 v3 v4 v5 σ = some (r, σ') → WM d X Y b mi_X8_isWithin 57 [some (vR 25 0), some (vI v1), none, some (vI v3), some (vI v4), some (vI v5)] [] σ (some (vI r), σ') := by
  intro n
  induction n with
  | zero => intro _ _ _ _ σ h; cases h
  | succ n ih =>
    intro v1 v3 v4 v5 σ h
    rw [f_X8_isWithin_57] at h
    refine r_iload (pc' := 59) d_X8_isWithin_57 rfl rfl ?_
    refine r_aload_n (pc' := 60) d_X8_isWithin_59 rfl rfl rfl ?_
    refine r_get (v := vR 82 _) (pc' := 63) fl_X8_110 d_X8_isWithin_60 rfl rfl (fun g => Or.inl ⟨rfl, g.2⟩) rfl ?_
    refine r_iload (pc' := 65) d_X8_isWithin_63 rfl rfl ?_
    refine r_iaload (pc' := 66) d_X8_isWithin_65 rfl (fun _ => rfl) rfl h (fun h => ?_)
    refine r_icmp_ge (pcT := 120) (pc' := 69) d_X8_isWithin_66 rfl rfl h (fun _ h => ?_) (fun _ h => ?_)
    · exact WM.drop [5] rfl (t_X8_isWithin_120 hK34 hK45 h)
    · refine r_aload_n (pc' := 70) d_X8_isWithin_69 rfl rfl rfl ?_
      refine r_get (v := vR 86 _) (pc' := 73) fl_X8_122 d_X8_isWithin_70 rfl rfl (fun g => Or.inl ⟨rfl, g.2⟩) rfl ?_
      refine r_iload (pc' := 75) d_X8_isWithin_73 rfl rfl ?_
      refine r_baload (pc' := 76) d_X8_isWithin_75 rfl (fun _ => rfl) rfl h (fun h => ?_)
      refine r_if_eq (pcT := 120) (pc' := 79) d_X8_isWithin_76 rfl rfl h (fun _ h => ?_) (fun _ h => ?_)
      · exact WM.drop [5] rfl (t_X8_isWithin_120 hK34 hK45 h)
      · refine r_aload_n (pc' := 80) d_X8_isWithin_79 rfl rfl rfl ?_
        refine r_get (v := vR 84 _) (pc' := 83) fl_X8_116 d_X8_isWithin_80 rfl rfl (fun g => Or.inl ⟨rfl, g.2⟩) rfl ?_
        refine r_bipush (pc' := 85) d_X8_isWithin_83 cb_20 rfl ?_
        refine r_iload (pc' := 87) d_X8_isWithin_85 rfl rfl ?_
        refine r_imul (pc' := 88) d_X8_isWithin_87 rfl ?_
        refine r_iload (pc' := 90) d_X8_isWithin_88 rfl rfl ?_
        refine r_iadd (pc' := 91) d_X8_isWithin_90 rfl ?_
        refine r_baload (pc' := 92) d_X8_isWithin_91 rfl (fun _ => rfl) rfl h (fun h => ?_)
        refine r_if_eq (pcT := 114) (pc' := 95) d_X8_isWithin_92 rfl rfl h (fun _ h => ?_) (fun _ h => ?_)
        · exact WM.drop [] rfl (t_X8_isWithin_114 hK34 hK45 ih h)
        · refine r_aload_n (pc' := 96) d_X8_isWithin_95 rfl rfl rfl ?_
          refine r_get (v := vR 86 _) (pc' := 99) fl_X8_122 d_X8_isWithin_96 rfl rfl (fun g => Or.inl ⟨rfl, g.2⟩) rfl ?_
          refine r_aload_n (pc' := 100) d_X8_isWithin_99 rfl rfl rfl ?_
          refine r_get (v := vR 83 _) (pc' := 103) fl_X8_113 d_X8_isWithin_100 rfl rfl (fun g => Or.inl ⟨rfl, g.2⟩) rfl ?_
          refine r_bipush (pc' := 105) d_X8_isWithin_103 cb_20 rfl ?_
          refine r_iload (pc' := 107) d_X8_isWithin_105 rfl rfl ?_
          refine r_imul (pc' := 108) d_X8_isWithin_107 rfl ?_
          refine r_iload (pc' := 110) d_X8_isWithin_108 rfl rfl ?_
          refine r_iadd (pc' := 111) d_X8_isWithin_110 rfl ?_
          refine r_iaload (pc' := 112) d_X8_isWithin_111 rfl (fun _ => rfl) rfl h (fun h => ?_)
          refine r_iconst (pc' := 113) d_X8_isWithin_112 ci_1 rfl ?_
          refine l_bastore (pc' := 114) d_X8_isWithin_113 rfl (fun _ => rfl) (by decide) (by decide) (fun _ => rfl) (Or.inr rfl) rfl h (fun s1 h => ?_)
          exact WM.drop [] rfl (t_X8_isWithin_114 hK34 hK45 ih h)
def f_X8_isWithin_45 (K34 : Int32 → Int32 → SS → Option (Int32 × SS)) : Nat → Int32 → Int32 → Int32 → SS → Option (Int32 × SS)
  | 0, _, _, _, _ => none
  | n + 1, v1, v3, v4, σ => if (σ.1 25 0 41) ≤ v4 then (f_X8_isWithin_126 K34 v1 v3 σ) else (f_X8_isWithin_57 K34 (f_X8_isWithin_45 K34 n) FU v1 v3 v4 (0 : Int32) σ)
set_option maxRecDepth 20000 in
theorem t_X8_isWithin_45 {d : Nat} {X : MX} {Y : MY} {b : Nat × Nat} {r : Int32} {σ' : SS} {K34 : Int32 → Int32 → SS → Option (Int32 × SS)} (hK34 : ∀ (v1 : Int32) (v3 : Int32) (σ : SS), K34 v1 v3 σ = some (r, σ') → WM d X Y b mi_X8_isWithin 34 [some (vR 25 0), some (vI v1), none, some (vI v3), none, none] [] σ (some (vI r), σ')) : ∀ (n : Nat) (v1 : Int32) (v3 : Int32) (v4 : Int32) (σ : SS), f_X8_isWithin_45 K34 n v1 v3 v4 σ = some (r, σ') → WM d X Y b mi_X8_isWithin 45 [some (vR 25 0), some (vI v1), none, some (vI v3), some (vI v4), none] [] σ (some (vI r), σ') := by
  intro n
  induction n with
  | zero => intro _ _ _ σ h; cases h
  | succ n ih =>
    intro v1 v3 v4 σ h
    rw [f_X8_isWithin_45] at h
    refine r_iload (pc' := 47) d_X8_isWithin_45 rfl rfl ?_
    refine r_aload_n (pc' := 48) d_X8_isWithin_47 rfl rfl rfl ?_
    refine r_get (v := vI _) (pc' := 51) fl_X8_285 d_X8_isWithin_48 rfl rfl (fun _ => trivial) rfl ?_
    refine r_icmp_ge (pcT := 126) (pc' := 54) d_X8_isWithin_51 rfl rfl h (fun _ h => ?_) (fun _ h => ?_)
    · exact WM.drop [4] rfl (t_X8_isWithin_126 hK34 h)
    · refine r_iconst (pc' := 55) d_X8_isWithin_54 ci_0 rfl ?_
      refine r_istore (pc' := 57) d_X8_isWithin_55 rfl rfl rfl ?_
      exact WM.drop [] rfl (t_X8_isWithin_57 hK34 ih _ _ _ _ _ _ h)
def f_X8_isWithin_34 : Nat → Int32 → Int32 → SS → Option (Int32 × SS)
  | 0, _, _, _ => none
  | n + 1, v1, v3, σ => if (σ.1 25 0 41) ≤ v3 then (f_X8_isWithin_132 v1 σ) else (f_X8_isWithin_45 (f_X8_isWithin_34 n) FU v1 v3 (0 : Int32) σ)
set_option maxRecDepth 20000 in
theorem t_X8_isWithin_34 {d : Nat} {X : MX} {Y : MY} {b : Nat × Nat} {r : Int32} {σ' : SS} : ∀ (n : Nat) (v1 : Int32) (v3 : Int32) (σ : SS), f_X8_isWithin_34 n v1 v3 σ = some (r, σ') → WM d X Y b mi_X8_isWithin 34 [some (vR 25 0), some (vI v1), none, some (vI v3), none, none] [] σ (some (vI r), σ') := by
  intro n
  induction n with
  | zero => intro _ _ σ h; cases h
  | succ n ih =>
    intro v1 v3 σ h
    rw [f_X8_isWithin_34] at h
    refine r_iload_n (pc' := 35) d_X8_isWithin_34 rfl rfl rfl ?_
    refine r_aload_n (pc' := 36) d_X8_isWithin_35 rfl rfl rfl ?_
    refine r_get (v := vI _) (pc' := 39) fl_X8_285 d_X8_isWithin_36 rfl rfl (fun _ => trivial) rfl ?_
    refine r_icmp_ge (pcT := 132) (pc' := 42) d_X8_isWithin_39 rfl rfl h (fun _ h => ?_) (fun _ h => ?_)
    · exact WM.drop [3] rfl (t_X8_isWithin_132 h)
    · refine r_iconst (pc' := 43) d_X8_isWithin_42 ci_0 rfl ?_
      refine r_istore (pc' := 45) d_X8_isWithin_43 rfl rfl rfl ?_
      exact WM.drop [] rfl (t_X8_isWithin_45 ih _ _ _ _ _ h)
def f_X8_isWithin_32 (v1 : Int32) (σ : SS) : Option (Int32 × SS) := f_X8_isWithin_34 FU v1 (0 : Int32) σ
set_option maxRecDepth 20000 in
theorem t_X8_isWithin_32 {d : Nat} {X : MX} {Y : MY} {b : Nat × Nat} {r : Int32} {σ' : SS} {v1 : Int32} {σ : SS} (h : f_X8_isWithin_32 v1 σ = some (r, σ')) : WM d X Y b mi_X8_isWithin 32 [some (vR 25 0), some (vI v1), none, none, none, none] [] σ (some (vI r), σ') := by
  rw [f_X8_isWithin_32] at h
  refine r_iconst (pc' := 33) d_X8_isWithin_32 ci_0 rfl ?_
  refine r_istore_n (pc' := 34) d_X8_isWithin_33 rfl rfl rfl rfl ?_
  exact WM.drop [] rfl (t_X8_isWithin_34 _ _ _ _ h)
def f_X8_isWithin_25 (K2 : Int32 → Int32 → Int32 → SS → Option (Int32 × SS)) (v1 : Int32) (v2 : Int32) (v3 : Int32) (u1 : Int32) (u2 : Int32) (σ : SS) : Option (Int32 × SS) := chk (u2 = 0 ∨ u2 = 1) (chk (inr u1 12) (lt_ (up σ 86 0 (ix u1) u2) (fun s1 => lt_ (v3 + (1 : Int32)) (fun x3 => K2 v1 v2 x3 s1))))
set_option maxRecDepth 20000 in
theorem t_X8_isWithin_25 {d : Nat} {X : MX} {Y : MY} {b : Nat × Nat} {r : Int32} {σ' : SS} {K2 : Int32 → Int32 → Int32 → SS → Option (Int32 × SS)} {v1 : Int32} {v2 : Int32} {v3 : Int32} {u1 : Int32} {u2 : Int32} (hK2 : ∀ (v1 : Int32) (v2 : Int32) (v3 : Int32) (σ : SS), K2 v1 v2 v3 σ = some (r, σ') → WM d X Y b mi_X8_isWithin 2 [some (vR 25 0), some (vI v1), some (vI v2), some (vI v3), none, none] [] σ (some (vI r), σ')) {σ : SS} (h : f_X8_isWithin_25 K2 v1 v2 v3 u1 u2 σ = some (r, σ')) : WM d X Y b mi_X8_isWithin 25 [some (vR 25 0), some (vI v1), some (vI v2), some (vI v3), none, none] [vI u2, vI u1, vR 86 0] σ (some (vI r), σ') := by
  rw [f_X8_isWithin_25] at h
  obtain ⟨z2, h⟩ := chk_t h
  refine l_bastore (pc' := 26) d_X8_isWithin_25 rfl (fun _ => rfl) (by decide) (by decide) (fun _ => rfl) z2 rfl h (fun s1 h => ?_)
  refine l_iinc (pc' := 29) d_X8_isWithin_26 rfl ci_1 rfl rfl rfl h (fun x3 h => ?_)
  refine r_goto (pc' := 2) d_X8_isWithin_29 rfl ?_
  exact WM.drop [] rfl (hK2 _ _ _ _ h)
def f_X8_isWithin_2 : Nat → Int32 → Int32 → Int32 → SS → Option (Int32 × SS)
  | 0, _, _, _, _ => none
  | n + 1, v1, v2, v3, σ => if (σ.1 25 0 41) ≤ v3 then (f_X8_isWithin_32 v1 σ) else (if v3 = v2 then (f_X8_isWithin_25 (f_X8_isWithin_2 n) v1 v2 v3 v3 (1 : Int32) σ) else (f_X8_isWithin_25 (f_X8_isWithin_2 n) v1 v2 v3 v3 (0 : Int32) σ))
set_option maxRecDepth 20000 in
theorem t_X8_isWithin_2 {d : Nat} {X : MX} {Y : MY} {b : Nat × Nat} {r : Int32} {σ' : SS} : ∀ (n : Nat) (v1 : Int32) (v2 : Int32) (v3 : Int32) (σ : SS), f_X8_isWithin_2 n v1 v2 v3 σ = some (r, σ') → WM d X Y b mi_X8_isWithin 2 [some (vR 25 0), some (vI v1), some (vI v2), some (vI v3), none, none] [] σ (some (vI r), σ') := by
  intro n
  induction n with
  | zero => intro _ _ _ σ h; cases h
  | succ n ih =>
    intro v1 v2 v3 σ h
    rw [f_X8_isWithin_2] at h
    refine r_iload_n (pc' := 3) d_X8_isWithin_2 rfl rfl rfl ?_
    refine r_aload_n (pc' := 4) d_X8_isWithin_3 rfl rfl rfl ?_
    refine r_get (v := vI _) (pc' := 7) fl_X8_285 d_X8_isWithin_4 rfl rfl (fun _ => trivial) rfl ?_
    refine r_icmp_ge (pcT := 32) (pc' := 10) d_X8_isWithin_7 rfl rfl h (fun _ h => ?_) (fun _ h => ?_)
    · exact WM.drop [2, 3] rfl (t_X8_isWithin_32 h)
    · refine r_aload_n (pc' := 11) d_X8_isWithin_10 rfl rfl rfl ?_
      refine r_get (v := vR 86 _) (pc' := 14) fl_X8_122 d_X8_isWithin_11 rfl rfl (fun g => Or.inl ⟨rfl, g.2⟩) rfl ?_
      refine r_iload_n (pc' := 15) d_X8_isWithin_14 rfl rfl rfl ?_
      refine r_iload_n (pc' := 16) d_X8_isWithin_15 rfl rfl rfl ?_
      refine r_iload_n (pc' := 17) d_X8_isWithin_16 rfl rfl rfl ?_
      refine r_icmp_ne (pcT := 24) (pc' := 20) d_X8_isWithin_17 rfl rfl h (fun _ h => ?_) (fun _ h => ?_)
      · refine r_iconst (pc' := 21) d_X8_isWithin_20 ci_1 rfl ?_
        refine r_goto (pc' := 25) d_X8_isWithin_21 rfl ?_
        exact WM.drop [] rfl (t_X8_isWithin_25 ih h)
      · refine r_iconst (pc' := 25) d_X8_isWithin_24 ci_0 rfl ?_
        exact WM.drop [] rfl (t_X8_isWithin_25 ih h)
def f_X8_isWithin (v1 : Int32) (v2 : Int32) (σ : SS) : Option (Int32 × SS) := f_X8_isWithin_2 FU v1 v2 (0 : Int32) σ
set_option maxRecDepth 20000 in
theorem t_X8_isWithin {d : Nat} {b : Nat × Nat} {v1 : Int32} {v2 : Int32} {σ : SS} {r : Int32} {σ' : SS} (h : f_X8_isWithin v1 v2 σ = some (r, σ')) : MM d b mi_X8_isWithin [vR 25 0, vI v1, vI v2] σ (some (vI r), σ') := by
  refine MM.of (lv := [some (vR 25 0), some (vI v1), some (vI v2), none, none, none]) (by decide +kernel) rfl rfl (fun X Y => ?_)
  rw [f_X8_isWithin] at h
  refine r_iconst (pc' := 1) d_X8_isWithin_0 ci_0 rfl ?_
  refine r_istore_n (pc' := 2) d_X8_isWithin_1 rfl rfl rfl rfl ?_
  exact WM.drop [] rfl (t_X8_isWithin_2 _ _ _ _ _ h)
/-! OctagonYardModel.countWalks()I -/
def mi_X8_countWalks : MI := (yX8_countWalks, cX8_countWalks, 6, (some .int))
theorem d_X8_countWalks_0 : decode mi_X8_countWalks.2.1 0 = .ok (.iconst 0, 1) := by decide +kernel
theorem d_X8_countWalks_1 : decode mi_X8_countWalks.2.1 1 = .ok (.istore_n 1, 1) := by decide +kernel
theorem d_X8_countWalks_2 : decode mi_X8_countWalks.2.1 2 = .ok (.iload_n 1, 1) := by decide +kernel
theorem d_X8_countWalks_3 : decode mi_X8_countWalks.2.1 3 = .ok (.aload_n 0, 1) := by decide +kernel
theorem d_X8_countWalks_4 : decode mi_X8_countWalks.2.1 4 = .ok (.getfield 285, 3) := by decide +kernel
theorem d_X8_countWalks_7 : decode mi_X8_countWalks.2.1 7 = .ok (.if_icmp .ge 16, 3) := by decide +kernel
theorem d_X8_countWalks_10 : decode mi_X8_countWalks.2.1 10 = .ok (.aload_n 0, 1) := by decide +kernel
theorem d_X8_countWalks_11 : decode mi_X8_countWalks.2.1 11 = .ok (.getfield 119, 3) := by decide +kernel
theorem d_X8_countWalks_14 : decode mi_X8_countWalks.2.1 14 = .ok (.iload_n 1, 1) := by decide +kernel
theorem d_X8_countWalks_15 : decode mi_X8_countWalks.2.1 15 = .ok (.iconst 0, 1) := by decide +kernel
theorem d_X8_countWalks_16 : decode mi_X8_countWalks.2.1 16 = .ok (.iastore, 1) := by decide +kernel
theorem d_X8_countWalks_17 : decode mi_X8_countWalks.2.1 17 = .ok (.iinc 1 1, 3) := by decide +kernel
theorem d_X8_countWalks_20 : decode mi_X8_countWalks.2.1 20 = .ok (.goto (-18), 3) := by decide +kernel
theorem d_X8_countWalks_23 : decode mi_X8_countWalks.2.1 23 = .ok (.iconst 0, 1) := by decide +kernel
theorem d_X8_countWalks_24 : decode mi_X8_countWalks.2.1 24 = .ok (.istore_n 1, 1) := by decide +kernel
theorem d_X8_countWalks_25 : decode mi_X8_countWalks.2.1 25 = .ok (.iconst 0, 1) := by decide +kernel
theorem d_X8_countWalks_26 : decode mi_X8_countWalks.2.1 26 = .ok (.istore_n 2, 1) := by decide +kernel
theorem d_X8_countWalks_27 : decode mi_X8_countWalks.2.1 27 = .ok (.iload_n 2, 1) := by decide +kernel
theorem d_X8_countWalks_28 : decode mi_X8_countWalks.2.1 28 = .ok (.aload_n 0, 1) := by decide +kernel
theorem d_X8_countWalks_29 : decode mi_X8_countWalks.2.1 29 = .ok (.getfield 285, 3) := by decide +kernel
theorem d_X8_countWalks_32 : decode mi_X8_countWalks.2.1 32 = .ok (.if_icmp .ge 132, 3) := by decide +kernel
theorem d_X8_countWalks_35 : decode mi_X8_countWalks.2.1 35 = .ok (.iconst 0, 1) := by decide +kernel
theorem d_X8_countWalks_36 : decode mi_X8_countWalks.2.1 36 = .ok (.istore_n 3, 1) := by decide +kernel
theorem d_X8_countWalks_37 : decode mi_X8_countWalks.2.1 37 = .ok (.iload_n 3, 1) := by decide +kernel
theorem d_X8_countWalks_38 : decode mi_X8_countWalks.2.1 38 = .ok (.aload_n 0, 1) := by decide +kernel
theorem d_X8_countWalks_39 : decode mi_X8_countWalks.2.1 39 = .ok (.getfield 285, 3) := by decide +kernel
theorem d_X8_countWalks_42 : decode mi_X8_countWalks.2.1 42 = .ok (.if_icmp .ge 116, 3) := by decide +kernel
theorem d_X8_countWalks_45 : decode mi_X8_countWalks.2.1 45 = .ok (.iconst 0, 1) := by decide +kernel
theorem d_X8_countWalks_46 : decode mi_X8_countWalks.2.1 46 = .ok (.istore 4, 2) := by decide +kernel
theorem d_X8_countWalks_48 : decode mi_X8_countWalks.2.1 48 = .ok (.iconst 0, 1) := by decide +kernel
theorem d_X8_countWalks_49 : decode mi_X8_countWalks.2.1 49 = .ok (.istore 5, 2) := by decide +kernel
theorem d_X8_countWalks_51 : decode mi_X8_countWalks.2.1 51 = .ok (.iload 5, 2) := by decide +kernel
theorem d_X8_countWalks_53 : decode mi_X8_countWalks.2.1 53 = .ok (.aload_n 0, 1) := by decide +kernel
theorem d_X8_countWalks_54 : decode mi_X8_countWalks.2.1 54 = .ok (.getfield 110, 3) := by decide +kernel
theorem d_X8_countWalks_57 : decode mi_X8_countWalks.2.1 57 = .ok (.iload_n 3, 1) := by decide +kernel
theorem d_X8_countWalks_58 : decode mi_X8_countWalks.2.1 58 = .ok (.iaload, 1) := by decide +kernel
theorem d_X8_countWalks_59 : decode mi_X8_countWalks.2.1 59 = .ok (.if_icmp .ge 50, 3) := by decide +kernel
theorem d_X8_countWalks_62 : decode mi_X8_countWalks.2.1 62 = .ok (.iload 4, 2) := by decide +kernel
theorem d_X8_countWalks_64 : decode mi_X8_countWalks.2.1 64 = .ok (.aload_n 0, 1) := by decide +kernel
theorem d_X8_countWalks_65 : decode mi_X8_countWalks.2.1 65 = .ok (.getfield 116, 3) := by decide +kernel
theorem d_X8_countWalks_68 : decode mi_X8_countWalks.2.1 68 = .ok (.bipush 20, 2) := by decide +kernel
theorem d_X8_countWalks_70 : decode mi_X8_countWalks.2.1 70 = .ok (.iload_n 3, 1) := by decide +kernel
theorem d_X8_countWalks_71 : decode mi_X8_countWalks.2.1 71 = .ok (.imul, 1) := by decide +kernel
theorem d_X8_countWalks_72 : decode mi_X8_countWalks.2.1 72 = .ok (.iload 5, 2) := by decide +kernel
theorem d_X8_countWalks_74 : decode mi_X8_countWalks.2.1 74 = .ok (.iadd, 1) := by decide +kernel
theorem d_X8_countWalks_75 : decode mi_X8_countWalks.2.1 75 = .ok (.baload, 1) := by decide +kernel
theorem d_X8_countWalks_76 : decode mi_X8_countWalks.2.1 76 = .ok (.ifCond .eq 23, 3) := by decide +kernel
theorem d_X8_countWalks_79 : decode mi_X8_countWalks.2.1 79 = .ok (.aload_n 0, 1) := by decide +kernel
theorem d_X8_countWalks_80 : decode mi_X8_countWalks.2.1 80 = .ok (.getfield 119, 3) := by decide +kernel
theorem d_X8_countWalks_83 : decode mi_X8_countWalks.2.1 83 = .ok (.aload_n 0, 1) := by decide +kernel
theorem d_X8_countWalks_84 : decode mi_X8_countWalks.2.1 84 = .ok (.getfield 113, 3) := by decide +kernel
theorem d_X8_countWalks_87 : decode mi_X8_countWalks.2.1 87 = .ok (.bipush 20, 2) := by decide +kernel
theorem d_X8_countWalks_89 : decode mi_X8_countWalks.2.1 89 = .ok (.iload_n 3, 1) := by decide +kernel
theorem d_X8_countWalks_90 : decode mi_X8_countWalks.2.1 90 = .ok (.imul, 1) := by decide +kernel
theorem d_X8_countWalks_91 : decode mi_X8_countWalks.2.1 91 = .ok (.iload 5, 2) := by decide +kernel
theorem d_X8_countWalks_93 : decode mi_X8_countWalks.2.1 93 = .ok (.iadd, 1) := by decide +kernel
theorem d_X8_countWalks_94 : decode mi_X8_countWalks.2.1 94 = .ok (.iaload, 1) := by decide +kernel
theorem d_X8_countWalks_95 : decode mi_X8_countWalks.2.1 95 = .ok (.iaload, 1) := by decide +kernel
theorem d_X8_countWalks_96 : decode mi_X8_countWalks.2.1 96 = .ok (.goto 4, 3) := by decide +kernel
theorem d_X8_countWalks_99 : decode mi_X8_countWalks.2.1 99 = .ok (.iconst 1, 1) := by decide +kernel
theorem d_X8_countWalks_100 : decode mi_X8_countWalks.2.1 100 = .ok (.iadd, 1) := by decide +kernel
theorem d_X8_countWalks_101 : decode mi_X8_countWalks.2.1 101 = .ok (.istore 4, 2) := by decide +kernel
theorem d_X8_countWalks_103 : decode mi_X8_countWalks.2.1 103 = .ok (.iinc 5 1, 3) := by decide +kernel
theorem d_X8_countWalks_106 : decode mi_X8_countWalks.2.1 106 = .ok (.goto (-55), 3) := by decide +kernel
theorem d_X8_countWalks_109 : decode mi_X8_countWalks.2.1 109 = .ok (.aload_n 0, 1) := by decide +kernel
theorem d_X8_countWalks_110 : decode mi_X8_countWalks.2.1 110 = .ok (.getfield 119, 3) := by decide +kernel
theorem d_X8_countWalks_113 : decode mi_X8_countWalks.2.1 113 = .ok (.iload_n 3, 1) := by decide +kernel
theorem d_X8_countWalks_114 : decode mi_X8_countWalks.2.1 114 = .ok (.iload 4, 2) := by decide +kernel
theorem d_X8_countWalks_116 : decode mi_X8_countWalks.2.1 116 = .ok (.ldc_w 288, 3) := by decide +kernel
theorem d_X8_countWalks_119 : decode mi_X8_countWalks.2.1 119 = .ok (.if_icmp .ge 8, 3) := by decide +kernel
theorem d_X8_countWalks_122 : decode mi_X8_countWalks.2.1 122 = .ok (.iload 4, 2) := by decide +kernel
theorem d_X8_countWalks_124 : decode mi_X8_countWalks.2.1 124 = .ok (.goto 6, 3) := by decide +kernel
theorem d_X8_countWalks_127 : decode mi_X8_countWalks.2.1 127 = .ok (.ldc_w 288, 3) := by decide +kernel
theorem d_X8_countWalks_130 : decode mi_X8_countWalks.2.1 130 = .ok (.iastore, 1) := by decide +kernel
theorem d_X8_countWalks_131 : decode mi_X8_countWalks.2.1 131 = .ok (.aload_n 0, 1) := by decide +kernel
theorem d_X8_countWalks_132 : decode mi_X8_countWalks.2.1 132 = .ok (.getfield 119, 3) := by decide +kernel
theorem d_X8_countWalks_135 : decode mi_X8_countWalks.2.1 135 = .ok (.iload_n 3, 1) := by decide +kernel
theorem d_X8_countWalks_136 : decode mi_X8_countWalks.2.1 136 = .ok (.iaload, 1) := by decide +kernel
theorem d_X8_countWalks_137 : decode mi_X8_countWalks.2.1 137 = .ok (.iload_n 1, 1) := by decide +kernel
theorem d_X8_countWalks_138 : decode mi_X8_countWalks.2.1 138 = .ok (.if_icmp .le 12, 3) := by decide +kernel
theorem d_X8_countWalks_141 : decode mi_X8_countWalks.2.1 141 = .ok (.aload_n 0, 1) := by decide +kernel
theorem d_X8_countWalks_142 : decode mi_X8_countWalks.2.1 142 = .ok (.getfield 119, 3) := by decide +kernel
theorem d_X8_countWalks_145 : decode mi_X8_countWalks.2.1 145 = .ok (.iload_n 3, 1) := by decide +kernel
theorem d_X8_countWalks_146 : decode mi_X8_countWalks.2.1 146 = .ok (.iaload, 1) := by decide +kernel
theorem d_X8_countWalks_147 : decode mi_X8_countWalks.2.1 147 = .ok (.goto 4, 3) := by decide +kernel
theorem d_X8_countWalks_150 : decode mi_X8_countWalks.2.1 150 = .ok (.iload_n 1, 1) := by decide +kernel
theorem d_X8_countWalks_151 : decode mi_X8_countWalks.2.1 151 = .ok (.istore_n 1, 1) := by decide +kernel
theorem d_X8_countWalks_152 : decode mi_X8_countWalks.2.1 152 = .ok (.iinc 3 1, 3) := by decide +kernel
theorem d_X8_countWalks_155 : decode mi_X8_countWalks.2.1 155 = .ok (.goto (-118), 3) := by decide +kernel
theorem d_X8_countWalks_158 : decode mi_X8_countWalks.2.1 158 = .ok (.iinc 2 1, 3) := by decide +kernel
theorem d_X8_countWalks_161 : decode mi_X8_countWalks.2.1 161 = .ok (.goto (-134), 3) := by decide +kernel
theorem d_X8_countWalks_164 : decode mi_X8_countWalks.2.1 164 = .ok (.iload_n 1, 1) := by decide +kernel
theorem d_X8_countWalks_165 : decode mi_X8_countWalks.2.1 165 = .ok (.ireturn, 1) := by decide +kernel
theorem fl_X8_119 : FL RX8 119 8 49 45 := ⟨RX8, TX8, rfl, by decide, rfl, by decide +kernel, in_8⟩
theorem k_X8_288 : Cond.constant RX8 288 (1000000) ∈ mtbl := by decide +kernel
def f_X8_countWalks_158 (K27 : Int32 → Int32 → SS → Option (Int32 × SS)) (v1 : Int32) (v2 : Int32) (σ : SS) : Option (Int32 × SS) := lt_ (v2 + (1 : Int32)) (fun x1 => K27 v1 x1 σ)
set_option maxRecDepth 20000 in
theorem t_X8_countWalks_158 {d : Nat} {X : MX} {Y : MY} {b : Nat × Nat} {r : Int32} {σ' : SS} {K27 : Int32 → Int32 → SS → Option (Int32 × SS)} {v1 : Int32} {v2 : Int32} (hK27 : ∀ (v1 : Int32) (v2 : Int32) (σ : SS), K27 v1 v2 σ = some (r, σ') → WM d X Y b mi_X8_countWalks 27 [some (vR 25 0), some (vI v1), some (vI v2), none, none, none] [] σ (some (vI r), σ')) {σ : SS} (h : f_X8_countWalks_158 K27 v1 v2 σ = some (r, σ')) : WM d X Y b mi_X8_countWalks 158 [some (vR 25 0), some (vI v1), some (vI v2), none, none, none] [] σ (some (vI r), σ') := by
  rw [f_X8_countWalks_158] at h
  refine l_iinc (pc' := 161) d_X8_countWalks_158 rfl ci_1 rfl rfl rfl h (fun x1 h => ?_)
  refine r_goto (pc' := 27) d_X8_countWalks_161 rfl ?_
  exact WM.drop [] rfl (hK27 _ _ _ h)
def f_X8_countWalks_151 (K27 : Int32 → Int32 → SS → Option (Int32 × SS)) (K37 : Int32 → Int32 → Int32 → SS → Option (Int32 × SS)) (v2 : Int32) (v3 : Int32) (u0 : Int32) (σ : SS) : Option (Int32 × SS) := lt_ (v3 + (1 : Int32)) (fun x1 => K37 u0 v2 x1 σ)
set_option maxRecDepth 20000 in
theorem t_X8_countWalks_151 {d : Nat} {X : MX} {Y : MY} {b : Nat × Nat} {r : Int32} {σ' : SS} {K27 : Int32 → Int32 → SS → Option (Int32 × SS)} {K37 : Int32 → Int32 → Int32 → SS → Option (Int32 × SS)} {v2 : Int32} {v3 : Int32} {u0 : Int32} (hK27 : ∀ (v1 : Int32) (v2 : Int32) (σ : SS), K27 v1 v2 σ = some (r, σ') → WM d X Y b mi_X8_countWalks 27 [some (vR 25 0), some (vI v1), some (vI v2), none, none, none] [] σ (some (vI r), σ')) (hK37 : ∀ (v1 : Int32) (v2 : Int32) (v3 : Int32) (σ : SS), K37 v1 v2 v3 σ = some (r, σ') → WM d X Y b mi_X8_countWalks 37 [some (vR 25 0), some (vI v1), some (vI v2), some (vI v3), none, none] [] σ (some (vI r), σ')) {σ : SS} (h : f_X8_countWalks_151 K27 K37 v2 v3 u0 σ = some (r, σ')) : WM d X Y b mi_X8_countWalks 151 [some (vR 25 0), none, some (vI v2), some (vI v3), none, none] [vI u0] σ (some (vI r), σ') := by
  rw [f_X8_countWalks_151] at h
  refine r_istore_n (pc' := 152) d_X8_countWalks_151 rfl rfl rfl rfl ?_
  refine l_iinc (pc' := 155) d_X8_countWalks_152 rfl ci_1 rfl rfl rfl h (fun x1 h => ?_)
  refine r_goto (pc' := 37) d_X8_countWalks_155 rfl ?_
  exact WM.drop [] rfl (hK37 _ _ _ _ h)
def f_X8_countWalks_130 (K27 : Int32 → Int32 → SS → Option (Int32 × SS)) (K37 : Int32 → Int32 → Int32 → SS → Option (Int32 × SS)) (v1 : Int32) (v2 : Int32) (v3 : Int32) (u1 : Int32) (u2 : Int32) (σ : SS) : Option (Int32 × SS) := chk (inr u1 12) (lt_ (up σ 85 0 (ix u1) u2) (fun s1 => chk (inr v3 12) (if (s1.1 85 0 (ix v3)) ≤ v1 then (f_X8_countWalks_151 K27 K37 v2 v3 v1 s1) else (chk (inr v3 12) (f_X8_countWalks_151 K27 K37 v2 v3 (s1.1 85 0 (ix v3)) s1)))))
set_option maxRecDepth 20000 in
theorem t_X8_countWalks_130 {d : Nat} {X : MX} {Y : MY} {b : Nat × Nat} {r : Int32} {σ' : SS} {K27 : Int32 → Int32 → SS → Option (Int32 × SS)} {K37 : Int32 → Int32 → Int32 → SS → Option (Int32 × SS)} {v1 : Int32} {v2 : Int32} {v3 : Int32} {u1 : Int32} {u2 : Int32} (hK27 : ∀ (v1 : Int32) (v2 : Int32) (σ : SS), K27 v1 v2 σ = some (r, σ') → WM d X Y b mi_X8_countWalks 27 [some (vR 25 0), some (vI v1), some (vI v2), none, none, none] [] σ (some (vI r), σ')) (hK37 : ∀ (v1 : Int32) (v2 : Int32) (v3 : Int32) (σ : SS), K37 v1 v2 v3 σ = some (r, σ') → WM d X Y b mi_X8_countWalks 37 [some (vR 25 0), some (vI v1), some (vI v2), some (vI v3), none, none] [] σ (some (vI r), σ')) {σ : SS} (h : f_X8_countWalks_130 K27 K37 v1 v2 v3 u1 u2 σ = some (r, σ')) : WM d X Y b mi_X8_countWalks 130 [some (vR 25 0), some (vI v1), some (vI v2), some (vI v3), none, none] [vI u2, vI u1, vR 85 0] σ (some (vI r), σ') := by
  rw [f_X8_countWalks_130] at h
  refine l_iastore (pc' := 131) d_X8_countWalks_130 rfl (fun _ => rfl) (by decide) (by decide) (fun _ => rfl) rfl h (fun s1 h => ?_)
  refine r_aload_n (pc' := 132) d_X8_countWalks_131 rfl rfl rfl ?_
  refine r_get (v := vR 85 _) (pc' := 135) fl_X8_119 d_X8_countWalks_132 rfl rfl (fun g => Or.inl ⟨rfl, g.2⟩) rfl ?_
  refine r_iload_n (pc' := 136) d_X8_countWalks_135 rfl rfl rfl ?_
  refine r_iaload (pc' := 137) d_X8_countWalks_136 rfl (fun _ => rfl) rfl h (fun h => ?_)
  refine r_iload_n (pc' := 138) d_X8_countWalks_137 rfl rfl rfl ?_
  refine r_icmp_le (pcT := 150) (pc' := 141) d_X8_countWalks_138 rfl rfl h (fun _ h => ?_) (fun _ h => ?_)
  · refine r_iload_n (pc' := 151) d_X8_countWalks_150 rfl rfl rfl ?_
    exact WM.drop [1] rfl (t_X8_countWalks_151 hK27 hK37 h)
  · refine r_aload_n (pc' := 142) d_X8_countWalks_141 rfl rfl rfl ?_
    refine r_get (v := vR 85 _) (pc' := 145) fl_X8_119 d_X8_countWalks_142 rfl rfl (fun g => Or.inl ⟨rfl, g.2⟩) rfl ?_
    refine r_iload_n (pc' := 146) d_X8_countWalks_145 rfl rfl rfl ?_
    refine r_iaload (pc' := 147) d_X8_countWalks_146 rfl (fun _ => rfl) rfl h (fun h => ?_)
    refine r_goto (pc' := 151) d_X8_countWalks_147 rfl ?_
    exact WM.drop [1] rfl (t_X8_countWalks_151 hK27 hK37 h)
def f_X8_countWalks_109 (K27 : Int32 → Int32 → SS → Option (Int32 × SS)) (K37 : Int32 → Int32 → Int32 → SS → Option (Int32 × SS)) (v1 : Int32) (v2 : Int32) (v3 : Int32) (v4 : Int32) (σ : SS) : Option (Int32 × SS) := if (1000000 : Int32) ≤ v4 then (f_X8_countWalks_130 K27 K37 v1 v2 v3 v3 (1000000 : Int32) σ) else (f_X8_countWalks_130 K27 K37 v1 v2 v3 v3 v4 σ)
set_option maxRecDepth 20000 in
theorem t_X8_countWalks_109 {d : Nat} {X : MX} {Y : MY} {b : Nat × Nat} {r : Int32} {σ' : SS} {K27 : Int32 → Int32 → SS → Option (Int32 × SS)} {K37 : Int32 → Int32 → Int32 → SS → Option (Int32 × SS)} {v1 : Int32} {v2 : Int32} {v3 : Int32} {v4 : Int32} (hK27 : ∀ (v1 : Int32) (v2 : Int32) (σ : SS), K27 v1 v2 σ = some (r, σ') → WM d X Y b mi_X8_countWalks 27 [some (vR 25 0), some (vI v1), some (vI v2), none, none, none] [] σ (some (vI r), σ')) (hK37 : ∀ (v1 : Int32) (v2 : Int32) (v3 : Int32) (σ : SS), K37 v1 v2 v3 σ = some (r, σ') → WM d X Y b mi_X8_countWalks 37 [some (vR 25 0), some (vI v1), some (vI v2), some (vI v3), none, none] [] σ (some (vI r), σ')) {σ : SS} (h : f_X8_countWalks_109 K27 K37 v1 v2 v3 v4 σ = some (r, σ')) : WM d X Y b mi_X8_countWalks 109 [some (vR 25 0), some (vI v1), some (vI v2), some (vI v3), some (vI v4), none] [] σ (some (vI r), σ') := by
  rw [f_X8_countWalks_109] at h
  refine r_aload_n (pc' := 110) d_X8_countWalks_109 rfl rfl rfl ?_
  refine r_get (v := vR 85 _) (pc' := 113) fl_X8_119 d_X8_countWalks_110 rfl rfl (fun g => Or.inl ⟨rfl, g.2⟩) rfl ?_
  refine r_iload_n (pc' := 114) d_X8_countWalks_113 rfl rfl rfl ?_
  refine r_iload (pc' := 116) d_X8_countWalks_114 rfl rfl ?_
  refine r_ldcw (pc' := 119) k_X8_288 d_X8_countWalks_116 rfl ?_
  refine r_icmp_ge (pcT := 127) (pc' := 122) d_X8_countWalks_119 rfl rfl h (fun _ h => ?_) (fun _ h => ?_)
  · refine r_ldcw (pc' := 130) k_X8_288 d_X8_countWalks_127 rfl ?_
    exact WM.drop [4] rfl (t_X8_countWalks_130 hK27 hK37 h)
  · refine r_iload (pc' := 124) d_X8_countWalks_122 rfl rfl ?_
    refine r_goto (pc' := 130) d_X8_countWalks_124 rfl ?_
    exact WM.drop [4] rfl (t_X8_countWalks_130 hK27 hK37 h)
def f_X8_countWalks_100 (K27 : Int32 → Int32 → SS → Option (Int32 × SS)) (K37 : Int32 → Int32 → Int32 → SS → Option (Int32 × SS)) (K51 : Int32 → Int32 → Int32 → Int32 → Int32 → SS → Option (Int32 × SS)) (v1 : Int32) (v2 : Int32) (v3 : Int32) (v5 : Int32) (u0 : Int32) (u1 : Int32) (σ : SS) : Option (Int32 × SS) := lt_ (u0 + u1) (fun x1 => lt_ (v5 + (1 : Int32)) (fun x2 => K51 v1 v2 v3 x1 x2 σ))
set_option maxRecDepth 20000 in
theorem t_X8_countWalks_100 {d : Nat} {X : MX} {Y : MY} {b : Nat × Nat} {r : Int32} {σ' : SS} {K27 : Int32 → Int32 → SS → Option (Int32 × SS)} {K37 : Int32 → Int32 → Int32 → SS → Option (Int32 × SS)} {K51 : Int32 → Int32 → Int32 → Int32 → Int32 → SS → Option (Int32 × SS)} {v1 : Int32} {v2 : Int32} {v3 : Int32} {v5 : Int32} {u0 : Int32} {u1 : Int32} (hK27 : ∀ (v1 : Int32) (v2 : Int32) (σ : SS), K27 v1 v2 σ = some (r, σ') → WM d X Y b mi_X8_countWalks 27 [some (vR 25 0), some (vI v1), some (vI v2), none, none, none] [] σ (some (vI r), σ')) (hK37 : ∀ (v1 : Int32) (v2 : Int32) (v3 : Int32) (σ : SS), K37 v1 v2 v3 σ = some (r, σ') → WM d X Y b mi_X8_countWalks 37 [some (vR 25 0), some (vI v1), some (vI v2), some (vI v3), none, none] [] σ (some (vI r), σ')) (hK51 : ∀ (v1 : Int32) (v2 : Int32) (v3 : Int32) (v4 : Int32) (v5 : Int32) (σ : SS), K51 v1 v2 v3 v4 v5 σ = some (r, σ') → WM d X Y b mi_X8_countWalks 51 [some (vR 25 0), some (vI v1), some (vI v2), some (vI v3), some (vI v4), some (vI v5)] [] σ (some (vI r), σ')) {σ : SS} (h : f_X8_countWalks_100 K27 K37 K51 v1 v2 v3 v5 u0 u1 σ = some (r, σ')) : WM d X Y b mi_X8_countWalks 100 [some (vR 25 0), some (vI v1), some (vI v2), some (vI v3), none, some (vI v5)] [vI u1, vI u0] σ (some (vI r), σ') := by
  rw [f_X8_countWalks_100] at h
  refine r_iadd (pc' := 101) d_X8_countWalks_100 rfl ?_
  refine l_istore (pc' := 103) d_X8_countWalks_101 rfl rfl rfl h (fun x1 h => ?_)
  refine l_iinc (pc' := 106) d_X8_countWalks_103 rfl ci_1 rfl rfl rfl h (fun x2 h => ?_)
  refine r_goto (pc' := 51) d_X8_countWalks_106 rfl ?_
  exact WM.drop [] rfl (hK51 _ _ _ _ _ _ h)
def f_X8_countWalks_51 (K27 : Int32 → Int32 → SS → Option (Int32 × SS)) (K37 : Int32 → Int32 → Int32 → SS → Option (Int32 × SS)) : Nat → Int32 → Int32 → Int32 → Int32 → Int32 → SS → Option (Int32 × SS)
  | 0, _, _, _, _, _, _ => none
  | n + 1, v1, v2, v3, v4, v5, σ => chk (inr v3 12) (if (σ.1 82 0 (ix v3)) ≤ v5 then (f_X8_countWalks_109 K27 K37 v1 v2 v3 v4 σ) else (chk (inr (((20 : Int32) * v3) + v5) 240) (if (σ.1 84 0 (ix (((20 : Int32) * v3) + v5))) = 0 then (f_X8_countWalks_100 K27 K37 (f_X8_countWalks_51 K27 K37 n) v1 v2 v3 v5 v4 (1 : Int32) σ) else (chk (inr (((20 : Int32) * v3) + v5) 240) (chk (inr (σ.1 83 0 (ix (((20 : Int32) * v3) + v5))) 12) (f_X8_countWalks_100 K27 K37 (f_X8_countWalks_51 K27 K37 n) v1 v2 v3 v5 v4 (σ.1 85 0 (ix (σ.1 83 0 (ix (((20 : Int32) * v3) + v5))))) σ))))))
set_option maxRecDepth 20000 in
theorem t_X8_countWalks_51 {d : Nat} {X : MX} {Y : MY} {b : Nat × Nat} {r : Int32} {σ' : SS} {K27 : Int32 → Int32 → SS → Option (Int32 × SS)} {K37 : Int32 → Int32 → Int32 → SS → Option (Int32 × SS)} (hK27 : ∀ (v1 : Int32) (v2 : Int32) (σ : SS), K27 v1 v2 σ = some (r, σ') → WM d X Y b mi_X8_countWalks 27 [some (vR 25 0), some (vI v1), some (vI v2), none, none, none] [] σ (some (vI r), σ')) (hK37 : ∀ (v1 : Int32) (v2 : Int32) (v3 : Int32) (σ : SS), K37 v1 v2 v3 σ = some (r, σ') → WM d X Y b mi_X8_countWalks 37 [some (vR 25 0), some (vI v1), some (vI v2), some (vI v3), none, none] [] σ (some (vI r), σ')) : ∀ (n : Nat) (v1 : Int32) (v2 : Int32) (v3 : Int32) (v4 : Int32) (v5 : Int32) (σ : SS), f_X8_countWalks_51 K27 K37 n v1 v2 v3 v4 v5 σ = some (r, σ') → WM d X Y b mi_X8_countWalks 51 [some (vR 25 0), some (vI v1), some (vI v2), some (vI v3), some (vI v4), some (vI v5)] [] σ (some (vI r), σ') := by
  intro n
  induction n with
  | zero => intro _ _ _ _ _ σ h; cases h
  | succ n ih =>
    intro v1 v2 v3 v4 v5 σ h
    rw [f_X8_countWalks_51] at h
    refine r_iload (pc' := 53) d_X8_countWalks_51 rfl rfl ?_
    refine r_aload_n (pc' := 54) d_X8_countWalks_53 rfl rfl rfl ?_
    refine r_get (v := vR 82 _) (pc' := 57) fl_X8_110 d_X8_countWalks_54 rfl rfl (fun g => Or.inl ⟨rfl, g.2⟩) rfl ?_
    refine r_iload_n (pc' := 58) d_X8_countWalks_57 rfl rfl rfl ?_
    refine r_iaload (pc' := 59) d_X8_countWalks_58 rfl (fun _ => rfl) rfl h (fun h => ?_)
    refine r_icmp_ge (pcT := 109) (pc' := 62) d_X8_countWalks_59 rfl rfl h (fun _ h => ?_) (fun _ h => ?_)
    · exact WM.drop [5] rfl (t_X8_countWalks_109 hK27 hK37 h)
    · refine r_iload (pc' := 64) d_X8_countWalks_62 rfl rfl ?_
      refine r_aload_n (pc' := 65) d_X8_countWalks_64 rfl rfl rfl ?_
      refine r_get (v := vR 84 _) (pc' := 68) fl_X8_116 d_X8_countWalks_65 rfl rfl (fun g => Or.inl ⟨rfl, g.2⟩) rfl ?_
      refine r_bipush (pc' := 70) d_X8_countWalks_68 cb_20 rfl ?_
      refine r_iload_n (pc' := 71) d_X8_countWalks_70 rfl rfl rfl ?_
      refine r_imul (pc' := 72) d_X8_countWalks_71 rfl ?_
      refine r_iload (pc' := 74) d_X8_countWalks_72 rfl rfl ?_
      refine r_iadd (pc' := 75) d_X8_countWalks_74 rfl ?_
      refine r_baload (pc' := 76) d_X8_countWalks_75 rfl (fun _ => rfl) rfl h (fun h => ?_)
      refine r_if_eq (pcT := 99) (pc' := 79) d_X8_countWalks_76 rfl rfl h (fun _ h => ?_) (fun _ h => ?_)
      · refine r_iconst (pc' := 100) d_X8_countWalks_99 ci_1 rfl ?_
        exact WM.drop [4] rfl (t_X8_countWalks_100 hK27 hK37 ih h)
      · refine r_aload_n (pc' := 80) d_X8_countWalks_79 rfl rfl rfl ?_
        refine r_get (v := vR 85 _) (pc' := 83) fl_X8_119 d_X8_countWalks_80 rfl rfl (fun g => Or.inl ⟨rfl, g.2⟩) rfl ?_
        refine r_aload_n (pc' := 84) d_X8_countWalks_83 rfl rfl rfl ?_
        refine r_get (v := vR 83 _) (pc' := 87) fl_X8_113 d_X8_countWalks_84 rfl rfl (fun g => Or.inl ⟨rfl, g.2⟩) rfl ?_
        refine r_bipush (pc' := 89) d_X8_countWalks_87 cb_20 rfl ?_
        refine r_iload_n (pc' := 90) d_X8_countWalks_89 rfl rfl rfl ?_
        refine r_imul (pc' := 91) d_X8_countWalks_90 rfl ?_
        refine r_iload (pc' := 93) d_X8_countWalks_91 rfl rfl ?_
        refine r_iadd (pc' := 94) d_X8_countWalks_93 rfl ?_
        refine r_iaload (pc' := 95) d_X8_countWalks_94 rfl (fun _ => rfl) rfl h (fun h => ?_)
        refine r_iaload (pc' := 96) d_X8_countWalks_95 rfl (fun _ => rfl) rfl h (fun h => ?_)
        refine r_goto (pc' := 100) d_X8_countWalks_96 rfl ?_
        exact WM.drop [4] rfl (t_X8_countWalks_100 hK27 hK37 ih h)
def f_X8_countWalks_37 (K27 : Int32 → Int32 → SS → Option (Int32 × SS)) : Nat → Int32 → Int32 → Int32 → SS → Option (Int32 × SS)
  | 0, _, _, _, _ => none
  | n + 1, v1, v2, v3, σ => if (σ.1 25 0 41) ≤ v3 then (f_X8_countWalks_158 K27 v1 v2 σ) else (f_X8_countWalks_51 K27 (f_X8_countWalks_37 K27 n) FU v1 v2 v3 (0 : Int32) (0 : Int32) σ)
set_option maxRecDepth 20000 in
theorem t_X8_countWalks_37 {d : Nat} {X : MX} {Y : MY} {b : Nat × Nat} {r : Int32} {σ' : SS} {K27 : Int32 → Int32 → SS → Option (Int32 × SS)} (hK27 : ∀ (v1 : Int32) (v2 : Int32) (σ : SS), K27 v1 v2 σ = some (r, σ') → WM d X Y b mi_X8_countWalks 27 [some (vR 25 0), some (vI v1), some (vI v2), none, none, none] [] σ (some (vI r), σ')) : ∀ (n : Nat) (v1 : Int32) (v2 : Int32) (v3 : Int32) (σ : SS), f_X8_countWalks_37 K27 n v1 v2 v3 σ = some (r, σ') → WM d X Y b mi_X8_countWalks 37 [some (vR 25 0), some (vI v1), some (vI v2), some (vI v3), none, none] [] σ (some (vI r), σ') := by
  intro n
  induction n with
  | zero => intro _ _ _ σ h; cases h
  | succ n ih =>
    intro v1 v2 v3 σ h
    rw [f_X8_countWalks_37] at h
    refine r_iload_n (pc' := 38) d_X8_countWalks_37 rfl rfl rfl ?_
    refine r_aload_n (pc' := 39) d_X8_countWalks_38 rfl rfl rfl ?_
    refine r_get (v := vI _) (pc' := 42) fl_X8_285 d_X8_countWalks_39 rfl rfl (fun _ => trivial) rfl ?_
    refine r_icmp_ge (pcT := 158) (pc' := 45) d_X8_countWalks_42 rfl rfl h (fun _ h => ?_) (fun _ h => ?_)
    · exact WM.drop [3] rfl (t_X8_countWalks_158 hK27 h)
    · refine r_iconst (pc' := 46) d_X8_countWalks_45 ci_0 rfl ?_
      refine r_istore (pc' := 48) d_X8_countWalks_46 rfl rfl rfl ?_
      refine r_iconst (pc' := 49) d_X8_countWalks_48 ci_0 rfl ?_
      refine r_istore (pc' := 51) d_X8_countWalks_49 rfl rfl rfl ?_
      exact WM.drop [] rfl (t_X8_countWalks_51 hK27 ih _ _ _ _ _ _ _ h)
def f_X8_countWalks_27 : Nat → Int32 → Int32 → SS → Option (Int32 × SS)
  | 0, _, _, _ => none
  | n + 1, v1, v2, σ => if (σ.1 25 0 41) ≤ v2 then (some (v1, σ)) else (f_X8_countWalks_37 (f_X8_countWalks_27 n) FU v1 v2 (0 : Int32) σ)
set_option maxRecDepth 20000 in
theorem t_X8_countWalks_27 {d : Nat} {X : MX} {Y : MY} {b : Nat × Nat} {r : Int32} {σ' : SS} : ∀ (n : Nat) (v1 : Int32) (v2 : Int32) (σ : SS), f_X8_countWalks_27 n v1 v2 σ = some (r, σ') → WM d X Y b mi_X8_countWalks 27 [some (vR 25 0), some (vI v1), some (vI v2), none, none, none] [] σ (some (vI r), σ') := by
  intro n
  induction n with
  | zero => intro _ _ σ h; cases h
  | succ n ih =>
    intro v1 v2 σ h
    rw [f_X8_countWalks_27] at h
    refine r_iload_n (pc' := 28) d_X8_countWalks_27 rfl rfl rfl ?_
    refine r_aload_n (pc' := 29) d_X8_countWalks_28 rfl rfl rfl ?_
    refine r_get (v := vI _) (pc' := 32) fl_X8_285 d_X8_countWalks_29 rfl rfl (fun _ => trivial) rfl ?_
    refine r_icmp_ge (pcT := 164) (pc' := 35) d_X8_countWalks_32 rfl rfl h (fun _ h => ?_) (fun _ h => ?_)
    · refine r_iload_n (pc' := 165) d_X8_countWalks_164 rfl rfl rfl ?_
      exact r_iret d_X8_countWalks_165 rfl h
    · refine r_iconst (pc' := 36) d_X8_countWalks_35 ci_0 rfl ?_
      refine r_istore_n (pc' := 37) d_X8_countWalks_36 rfl rfl rfl rfl ?_
      exact WM.drop [] rfl (t_X8_countWalks_37 ih _ _ _ _ _ h)
def f_X8_countWalks_23 (σ : SS) : Option (Int32 × SS) := f_X8_countWalks_27 FU (0 : Int32) (0 : Int32) σ
set_option maxRecDepth 20000 in
theorem t_X8_countWalks_23 {d : Nat} {X : MX} {Y : MY} {b : Nat × Nat} {r : Int32} {σ' : SS} {σ : SS} (h : f_X8_countWalks_23 σ = some (r, σ')) : WM d X Y b mi_X8_countWalks 23 [some (vR 25 0), none, none, none, none, none] [] σ (some (vI r), σ') := by
  rw [f_X8_countWalks_23] at h
  refine r_iconst (pc' := 24) d_X8_countWalks_23 ci_0 rfl ?_
  refine r_istore_n (pc' := 25) d_X8_countWalks_24 rfl rfl rfl rfl ?_
  refine r_iconst (pc' := 26) d_X8_countWalks_25 ci_0 rfl ?_
  refine r_istore_n (pc' := 27) d_X8_countWalks_26 rfl rfl rfl rfl ?_
  exact WM.drop [] rfl (t_X8_countWalks_27 _ _ _ _ h)
def f_X8_countWalks_2 : Nat → Int32 → SS → Option (Int32 × SS)
  | 0, _, _ => none
  | n + 1, v1, σ => if (σ.1 25 0 41) ≤ v1 then (f_X8_countWalks_23  σ) else (chk (inr v1 12) (lt_ (up σ 85 0 (ix v1) (0 : Int32)) (fun s1 => lt_ (v1 + (1 : Int32)) (fun x2 => f_X8_countWalks_2 n x2 s1))))
set_option maxRecDepth 20000 in
theorem t_X8_countWalks_2 {d : Nat} {X : MX} {Y : MY} {b : Nat × Nat} {r : Int32} {σ' : SS} : ∀ (n : Nat) (v1 : Int32) (σ : SS), f_X8_countWalks_2 n v1 σ = some (r, σ') → WM d X Y b mi_X8_countWalks 2 [some (vR 25 0), some (vI v1), none, none, none, none] [] σ (some (vI r), σ') := by
  intro n
  induction n with
  | zero => intro _ σ h; cases h
  | succ n ih =>
    intro v1 σ h
    rw [f_X8_countWalks_2] at h
    refine r_iload_n (pc' := 3) d_X8_countWalks_2 rfl rfl rfl ?_
    refine r_aload_n (pc' := 4) d_X8_countWalks_3 rfl rfl rfl ?_
    refine r_get (v := vI _) (pc' := 7) fl_X8_285 d_X8_countWalks_4 rfl rfl (fun _ => trivial) rfl ?_
    refine r_icmp_ge (pcT := 23) (pc' := 10) d_X8_countWalks_7 rfl rfl h (fun _ h => ?_) (fun _ h => ?_)
    · exact WM.drop [1] rfl (t_X8_countWalks_23 h)
    · refine r_aload_n (pc' := 11) d_X8_countWalks_10 rfl rfl rfl ?_
      refine r_get (v := vR 85 _) (pc' := 14) fl_X8_119 d_X8_countWalks_11 rfl rfl (fun g => Or.inl ⟨rfl, g.2⟩) rfl ?_
      refine r_iload_n (pc' := 15) d_X8_countWalks_14 rfl rfl rfl ?_
      refine r_iconst (pc' := 16) d_X8_countWalks_15 ci_0 rfl ?_
      refine l_iastore (pc' := 17) d_X8_countWalks_16 rfl (fun _ => rfl) (by decide) (by decide) (fun _ => rfl) rfl h (fun s1 h => ?_)
      refine l_iinc (pc' := 20) d_X8_countWalks_17 rfl ci_1 rfl rfl rfl h (fun x2 h => ?_)
      refine r_goto (pc' := 2) d_X8_countWalks_20 rfl ?_
      exact WM.drop [] rfl (ih _ _ h)
def f_X8_countWalks (σ : SS) : Option (Int32 × SS) := f_X8_countWalks_2 FU (0 : Int32) σ
set_option maxRecDepth 20000 in
theorem t_X8_countWalks {d : Nat} {b : Nat × Nat} {σ : SS} {r : Int32} {σ' : SS} (h : f_X8_countWalks σ = some (r, σ')) : MM d b mi_X8_countWalks [vR 25 0] σ (some (vI r), σ') := by
  refine MM.of (lv := [some (vR 25 0), none, none, none, none, none]) (by decide +kernel) rfl rfl (fun X Y => ?_)
  rw [f_X8_countWalks] at h
  refine r_iconst (pc' := 1) d_X8_countWalks_0 ci_0 rfl ?_
  refine r_istore_n (pc' := 2) d_X8_countWalks_1 rfl rfl rfl rfl ?_
  exact WM.drop [] rfl (t_X8_countWalks_2 _ _ _ h)
/-! OctagonYardModel.put(IIZ)I -/
def mi_X8_put : MI := (yX8_put, cX8_put, 5, (some .int))
theorem d_X8_put_0 : decode mi_X8_put.2.1 0 = .ok (.aload_n 0, 1) := by decide +kernel
theorem d_X8_put_1 : decode mi_X8_put.2.1 1 = .ok (.iload_n 1, 1) := by decide +kernel
theorem d_X8_put_2 : decode mi_X8_put.2.1 2 = .ok (.invokevirtual 289, 3) := by decide +kernel
theorem d_X8_put_5 : decode mi_X8_put.2.1 5 = .ok (.ifCond .eq 26, 3) := by decide +kernel
theorem d_X8_put_8 : decode mi_X8_put.2.1 8 = .ok (.iload_n 3, 1) := by decide +kernel
theorem d_X8_put_9 : decode mi_X8_put.2.1 9 = .ok (.ifCond .eq 14, 3) := by decide +kernel
theorem d_X8_put_12 : decode mi_X8_put.2.1 12 = .ok (.aload_n 0, 1) := by decide +kernel
theorem d_X8_put_13 : decode mi_X8_put.2.1 13 = .ok (.iload_n 2, 1) := by decide +kernel
theorem d_X8_put_14 : decode mi_X8_put.2.1 14 = .ok (.invokevirtual 289, 3) := by decide +kernel
theorem d_X8_put_17 : decode mi_X8_put.2.1 17 = .ok (.ifCond .ne 16, 3) := by decide +kernel
theorem d_X8_put_20 : decode mi_X8_put.2.1 20 = .ok (.goto 11, 3) := by decide +kernel
theorem d_X8_put_23 : decode mi_X8_put.2.1 23 = .ok (.aload_n 0, 1) := by decide +kernel
theorem d_X8_put_24 : decode mi_X8_put.2.1 24 = .ok (.iload_n 2, 1) := by decide +kernel
theorem d_X8_put_25 : decode mi_X8_put.2.1 25 = .ok (.invokevirtual 192, 3) := by decide +kernel
theorem d_X8_put_28 : decode mi_X8_put.2.1 28 = .ok (.ifCond .ne 5, 3) := by decide +kernel
theorem d_X8_put_31 : decode mi_X8_put.2.1 31 = .ok (.iconst (-1), 1) := by decide +kernel
theorem d_X8_put_32 : decode mi_X8_put.2.1 32 = .ok (.ireturn, 1) := by decide +kernel
theorem d_X8_put_33 : decode mi_X8_put.2.1 33 = .ok (.iload_n 3, 1) := by decide +kernel
theorem d_X8_put_34 : decode mi_X8_put.2.1 34 = .ok (.ifCond .eq 15, 3) := by decide +kernel
theorem d_X8_put_37 : decode mi_X8_put.2.1 37 = .ok (.aload_n 0, 1) := by decide +kernel
theorem d_X8_put_38 : decode mi_X8_put.2.1 38 = .ok (.iload_n 1, 1) := by decide +kernel
theorem d_X8_put_39 : decode mi_X8_put.2.1 39 = .ok (.iload_n 2, 1) := by decide +kernel
theorem d_X8_put_40 : decode mi_X8_put.2.1 40 = .ok (.invokevirtual 292, 3) := by decide +kernel
theorem d_X8_put_43 : decode mi_X8_put.2.1 43 = .ok (.ifCond .eq 6, 3) := by decide +kernel
theorem d_X8_put_46 : decode mi_X8_put.2.1 46 = .ok (.bipush (-2), 2) := by decide +kernel
theorem d_X8_put_48 : decode mi_X8_put.2.1 48 = .ok (.ireturn, 1) := by decide +kernel
theorem d_X8_put_49 : decode mi_X8_put.2.1 49 = .ok (.aload_n 0, 1) := by decide +kernel
theorem d_X8_put_50 : decode mi_X8_put.2.1 50 = .ok (.getfield 110, 3) := by decide +kernel
theorem d_X8_put_53 : decode mi_X8_put.2.1 53 = .ok (.iload_n 1, 1) := by decide +kernel
theorem d_X8_put_54 : decode mi_X8_put.2.1 54 = .ok (.iaload, 1) := by decide +kernel
theorem d_X8_put_55 : decode mi_X8_put.2.1 55 = .ok (.istore 4, 2) := by decide +kernel
theorem d_X8_put_57 : decode mi_X8_put.2.1 57 = .ok (.iload 4, 2) := by decide +kernel
theorem d_X8_put_59 : decode mi_X8_put.2.1 59 = .ok (.bipush 20, 2) := by decide +kernel
theorem d_X8_put_61 : decode mi_X8_put.2.1 61 = .ok (.if_icmp .ne 6, 3) := by decide +kernel
theorem d_X8_put_64 : decode mi_X8_put.2.1 64 = .ok (.bipush (-3), 2) := by decide +kernel
theorem d_X8_put_66 : decode mi_X8_put.2.1 66 = .ok (.ireturn, 1) := by decide +kernel
theorem d_X8_put_67 : decode mi_X8_put.2.1 67 = .ok (.aload_n 0, 1) := by decide +kernel
theorem d_X8_put_68 : decode mi_X8_put.2.1 68 = .ok (.getfield 113, 3) := by decide +kernel
theorem d_X8_put_71 : decode mi_X8_put.2.1 71 = .ok (.bipush 20, 2) := by decide +kernel
theorem d_X8_put_73 : decode mi_X8_put.2.1 73 = .ok (.iload_n 1, 1) := by decide +kernel
theorem d_X8_put_74 : decode mi_X8_put.2.1 74 = .ok (.imul, 1) := by decide +kernel
theorem d_X8_put_75 : decode mi_X8_put.2.1 75 = .ok (.iload 4, 2) := by decide +kernel
theorem d_X8_put_77 : decode mi_X8_put.2.1 77 = .ok (.iadd, 1) := by decide +kernel
theorem d_X8_put_78 : decode mi_X8_put.2.1 78 = .ok (.iload_n 2, 1) := by decide +kernel
theorem d_X8_put_79 : decode mi_X8_put.2.1 79 = .ok (.iastore, 1) := by decide +kernel
theorem d_X8_put_80 : decode mi_X8_put.2.1 80 = .ok (.aload_n 0, 1) := by decide +kernel
theorem d_X8_put_81 : decode mi_X8_put.2.1 81 = .ok (.getfield 116, 3) := by decide +kernel
theorem d_X8_put_84 : decode mi_X8_put.2.1 84 = .ok (.bipush 20, 2) := by decide +kernel
theorem d_X8_put_86 : decode mi_X8_put.2.1 86 = .ok (.iload_n 1, 1) := by decide +kernel
theorem d_X8_put_87 : decode mi_X8_put.2.1 87 = .ok (.imul, 1) := by decide +kernel
theorem d_X8_put_88 : decode mi_X8_put.2.1 88 = .ok (.iload 4, 2) := by decide +kernel
theorem d_X8_put_90 : decode mi_X8_put.2.1 90 = .ok (.iadd, 1) := by decide +kernel
theorem d_X8_put_91 : decode mi_X8_put.2.1 91 = .ok (.iload_n 3, 1) := by decide +kernel
theorem d_X8_put_92 : decode mi_X8_put.2.1 92 = .ok (.bastore, 1) := by decide +kernel
theorem d_X8_put_93 : decode mi_X8_put.2.1 93 = .ok (.aload_n 0, 1) := by decide +kernel
theorem d_X8_put_94 : decode mi_X8_put.2.1 94 = .ok (.getfield 110, 3) := by decide +kernel
theorem d_X8_put_97 : decode mi_X8_put.2.1 97 = .ok (.iload_n 1, 1) := by decide +kernel
theorem d_X8_put_98 : decode mi_X8_put.2.1 98 = .ok (.dup2, 1) := by decide +kernel
theorem d_X8_put_99 : decode mi_X8_put.2.1 99 = .ok (.iaload, 1) := by decide +kernel
theorem d_X8_put_100 : decode mi_X8_put.2.1 100 = .ok (.iconst 1, 1) := by decide +kernel
theorem d_X8_put_101 : decode mi_X8_put.2.1 101 = .ok (.iadd, 1) := by decide +kernel
theorem d_X8_put_102 : decode mi_X8_put.2.1 102 = .ok (.iastore, 1) := by decide +kernel
theorem d_X8_put_103 : decode mi_X8_put.2.1 103 = .ok (.aload_n 0, 1) := by decide +kernel
theorem d_X8_put_104 : decode mi_X8_put.2.1 104 = .ok (.invokevirtual 295, 3) := by decide +kernel
theorem d_X8_put_107 : decode mi_X8_put.2.1 107 = .ok (.sipush 500, 3) := by decide +kernel
theorem d_X8_put_110 : decode mi_X8_put.2.1 110 = .ok (.if_icmp .le 16, 3) := by decide +kernel
theorem d_X8_put_113 : decode mi_X8_put.2.1 113 = .ok (.aload_n 0, 1) := by decide +kernel
theorem d_X8_put_114 : decode mi_X8_put.2.1 114 = .ok (.getfield 110, 3) := by decide +kernel
theorem d_X8_put_117 : decode mi_X8_put.2.1 117 = .ok (.iload_n 1, 1) := by decide +kernel
theorem d_X8_put_118 : decode mi_X8_put.2.1 118 = .ok (.dup2, 1) := by decide +kernel
theorem d_X8_put_119 : decode mi_X8_put.2.1 119 = .ok (.iaload, 1) := by decide +kernel
theorem d_X8_put_120 : decode mi_X8_put.2.1 120 = .ok (.iconst 1, 1) := by decide +kernel
theorem d_X8_put_121 : decode mi_X8_put.2.1 121 = .ok (.isub, 1) := by decide +kernel
theorem d_X8_put_122 : decode mi_X8_put.2.1 122 = .ok (.iastore, 1) := by decide +kernel
theorem d_X8_put_123 : decode mi_X8_put.2.1 123 = .ok (.bipush (-3), 2) := by decide +kernel
theorem d_X8_put_125 : decode mi_X8_put.2.1 125 = .ok (.ireturn, 1) := by decide +kernel
theorem d_X8_put_126 : decode mi_X8_put.2.1 126 = .ok (.iload 4, 2) := by decide +kernel
theorem d_X8_put_128 : decode mi_X8_put.2.1 128 = .ok (.iconst 1, 1) := by decide +kernel
theorem d_X8_put_129 : decode mi_X8_put.2.1 129 = .ok (.iadd, 1) := by decide +kernel
theorem d_X8_put_130 : decode mi_X8_put.2.1 130 = .ok (.ireturn, 1) := by decide +kernel
theorem cw_X8_289 : CV RX8 289 mi_X8_isAssembly 1 := by unfold CV; decide +kernel
theorem cw_X8_292 : CV RX8 292 mi_X8_isWithin 2 := by unfold CV; decide +kernel
theorem cw_X8_295 : CV RX8 295 mi_X8_countWalks 0 := by unfold CV; decide +kernel
def f_X8_put_49 (v1 : Int32) (v2 : Int32) (v3 : Int32) (σ : SS) : Option (Int32 × SS) := chk (inr v1 12) (lt_ (σ.1 82 0 (ix v1)) (fun x1 => if x1 = (20 : Int32) then (some ((-3 : Int32), σ)) else (chk (inr (((20 : Int32) * v1) + x1) 240) (lt_ (up σ 83 0 (ix (((20 : Int32) * v1) + x1)) v2) (fun s2 => chk (v3 = 0 ∨ v3 = 1) (chk (inr (((20 : Int32) * v1) + x1) 240) (lt_ (up s2 84 0 (ix (((20 : Int32) * v1) + x1)) v3) (fun s3 => chk (inr v1 12) (chk (inr v1 12) (lt_ (up s3 82 0 (ix v1) ((s3.1 82 0 (ix v1)) + (1 : Int32))) (fun s5 => cal (f_X8_countWalks  s5) (fun x7 s6 => if x7 ≤ (500 : Int32) then (some ((x1 + (1 : Int32)), s6)) else (chk (inr v1 12) (chk (inr v1 12) (lt_ (up s6 82 0 (ix v1) ((s6.1 82 0 (ix v1)) - (1 : Int32))) (fun s8 => some ((-3 : Int32), s8)))))))))))))))))
set_option maxRecDepth 20000 in
theorem t_X8_put_49 {d : Nat} {X : MX} {Y : MY} {b : Nat × Nat} {r : Int32} {σ' : SS} {v1 : Int32} {v2 : Int32} {v3 : Int32} {σ : SS} (h : f_X8_put_49 v1 v2 v3 σ = some (r, σ')) : WM (d + 2) X Y b mi_X8_put 49 [some (vR 25 0), some (vI v1), some (vI v2), some (vI v3), none] [] σ (some (vI r), σ') := by
  rw [f_X8_put_49] at h
  refine r_aload_n (pc' := 50) d_X8_put_49 rfl rfl rfl ?_
  refine r_get (v := vR 82 _) (pc' := 53) fl_X8_110 d_X8_put_50 rfl rfl (fun g => Or.inl ⟨rfl, g.2⟩) rfl ?_
  refine r_iload_n (pc' := 54) d_X8_put_53 rfl rfl rfl ?_
  refine r_iaload (pc' := 55) d_X8_put_54 rfl (fun _ => rfl) rfl h (fun h => ?_)
  refine l_istore (pc' := 57) d_X8_put_55 rfl rfl rfl h (fun x1 h => ?_)
  refine r_iload (pc' := 59) d_X8_put_57 rfl rfl ?_
  refine r_bipush (pc' := 61) d_X8_put_59 cb_20 rfl ?_
  refine r_icmp_ne (pcT := 67) (pc' := 64) d_X8_put_61 rfl rfl h (fun _ h => ?_) (fun _ h => ?_)
  · refine r_bipush (pc' := 66) d_X8_put_64 cb_m3 rfl ?_
    exact r_iret d_X8_put_66 rfl h
  · refine r_aload_n (pc' := 68) d_X8_put_67 rfl rfl rfl ?_
    refine r_get (v := vR 83 _) (pc' := 71) fl_X8_113 d_X8_put_68 rfl rfl (fun g => Or.inl ⟨rfl, g.2⟩) rfl ?_
    refine r_bipush (pc' := 73) d_X8_put_71 cb_20 rfl ?_
    refine r_iload_n (pc' := 74) d_X8_put_73 rfl rfl rfl ?_
    refine r_imul (pc' := 75) d_X8_put_74 rfl ?_
    refine r_iload (pc' := 77) d_X8_put_75 rfl rfl ?_
    refine r_iadd (pc' := 78) d_X8_put_77 rfl ?_
    refine r_iload_n (pc' := 79) d_X8_put_78 rfl rfl rfl ?_
    refine l_iastore (pc' := 80) d_X8_put_79 rfl (fun _ => rfl) (by decide) (by decide) (fun _ => rfl) rfl h (fun s2 h => ?_)
    refine r_aload_n (pc' := 81) d_X8_put_80 rfl rfl rfl ?_
    refine r_get (v := vR 84 _) (pc' := 84) fl_X8_116 d_X8_put_81 rfl rfl (fun g => Or.inl ⟨rfl, g.2⟩) rfl ?_
    refine r_bipush (pc' := 86) d_X8_put_84 cb_20 rfl ?_
    refine r_iload_n (pc' := 87) d_X8_put_86 rfl rfl rfl ?_
    refine r_imul (pc' := 88) d_X8_put_87 rfl ?_
    refine r_iload (pc' := 90) d_X8_put_88 rfl rfl ?_
    refine r_iadd (pc' := 91) d_X8_put_90 rfl ?_
    refine r_iload_n (pc' := 92) d_X8_put_91 rfl rfl rfl ?_
    obtain ⟨z4, h⟩ := chk_t h
    refine l_bastore (pc' := 93) d_X8_put_92 rfl (fun _ => rfl) (by decide) (by decide) (fun _ => rfl) z4 rfl h (fun s3 h => ?_)
    refine r_aload_n (pc' := 94) d_X8_put_93 rfl rfl rfl ?_
    refine r_get (v := vR 82 _) (pc' := 97) fl_X8_110 d_X8_put_94 rfl rfl (fun g => Or.inl ⟨rfl, g.2⟩) rfl ?_
    refine r_iload_n (pc' := 98) d_X8_put_97 rfl rfl rfl ?_
    refine r_dup2 (pc' := 99) d_X8_put_98 rfl rfl rfl ?_
    refine r_iaload (pc' := 100) d_X8_put_99 rfl (fun _ => rfl) rfl h (fun h => ?_)
    refine r_iconst (pc' := 101) d_X8_put_100 ci_1 rfl ?_
    refine r_iadd (pc' := 102) d_X8_put_101 rfl ?_
    refine l_iastore (pc' := 103) d_X8_put_102 rfl (fun _ => rfl) (by decide) (by decide) (fun _ => rfl) rfl h (fun s5 h => ?_)
    refine r_aload_n (pc' := 104) d_X8_put_103 rfl rfl rfl ?_
    refine v0_i (mc := mi_X8_countWalks) (bc := (0, 0)) (b' := _) (pc' := 107) cw_X8_295 d_X8_put_104 rfl rfl rfl (Nat.zero_add _).symm (Nat.zero_add _).symm rfl h (fun _ _ e => t_X8_countWalks e) (fun x7 s6 h => ?_)
    refine r_sipush (pc' := 110) d_X8_put_107 cs_500 rfl ?_
    refine r_icmp_le (pcT := 126) (pc' := 113) d_X8_put_110 rfl rfl h (fun _ h => ?_) (fun _ h => ?_)
    · refine r_iload (pc' := 128) d_X8_put_126 rfl rfl ?_
      refine r_iconst (pc' := 129) d_X8_put_128 ci_1 rfl ?_
      refine r_iadd (pc' := 130) d_X8_put_129 rfl ?_
      exact r_iret d_X8_put_130 rfl h
    · refine r_aload_n (pc' := 114) d_X8_put_113 rfl rfl rfl ?_
      refine r_get (v := vR 82 _) (pc' := 117) fl_X8_110 d_X8_put_114 rfl rfl (fun g => Or.inl ⟨rfl, g.2⟩) rfl ?_
      refine r_iload_n (pc' := 118) d_X8_put_117 rfl rfl rfl ?_
      refine r_dup2 (pc' := 119) d_X8_put_118 rfl rfl rfl ?_
      refine r_iaload (pc' := 120) d_X8_put_119 rfl (fun _ => rfl) rfl h (fun h => ?_)
      refine r_iconst (pc' := 121) d_X8_put_120 ci_1 rfl ?_
      refine r_isub (pc' := 122) d_X8_put_121 rfl ?_
      refine l_iastore (pc' := 123) d_X8_put_122 rfl (fun _ => rfl) (by decide) (by decide) (fun _ => rfl) rfl h (fun s8 h => ?_)
      refine r_bipush (pc' := 125) d_X8_put_123 cb_m3 rfl ?_
      exact r_iret d_X8_put_125 rfl h
def f_X8_put_33 (v1 : Int32) (v2 : Int32) (v3 : Int32) (σ : SS) : Option (Int32 × SS) := if v3 = 0 then (f_X8_put_49 v1 v2 v3 σ) else (cal (f_X8_isWithin v1 v2 σ) (fun x2 s1 => if x2 = 0 then (f_X8_put_49 v1 v2 v3 s1) else (some ((-2 : Int32), s1))))
set_option maxRecDepth 20000 in
theorem t_X8_put_33 {d : Nat} {X : MX} {Y : MY} {b : Nat × Nat} {r : Int32} {σ' : SS} {v1 : Int32} {v2 : Int32} {v3 : Int32} {σ : SS} (h : f_X8_put_33 v1 v2 v3 σ = some (r, σ')) : WM (d + 2) X Y b mi_X8_put 33 [some (vR 25 0), some (vI v1), some (vI v2), some (vI v3), none] [] σ (some (vI r), σ') := by
  rw [f_X8_put_33] at h
  refine r_iload_n (pc' := 34) d_X8_put_33 rfl rfl rfl ?_
  refine r_if_eq (pcT := 49) (pc' := 37) d_X8_put_34 rfl rfl h (fun _ h => ?_) (fun _ h => ?_)
  · exact WM.drop [] rfl (t_X8_put_49 h)
  · refine r_aload_n (pc' := 38) d_X8_put_37 rfl rfl rfl ?_
    refine r_iload_n (pc' := 39) d_X8_put_38 rfl rfl rfl ?_
    refine r_iload_n (pc' := 40) d_X8_put_39 rfl rfl rfl ?_
    refine v2_i (mc := mi_X8_isWithin) (bc := (0, 0)) (b' := _) (pc' := 43) cw_X8_292 d_X8_put_40 rfl rfl rfl (Nat.zero_add _).symm (Nat.zero_add _).symm rfl h (fun _ _ e => t_X8_isWithin e) (fun x2 s1 h => ?_)
    refine r_if_eq (pcT := 49) (pc' := 46) d_X8_put_43 rfl rfl h (fun _ h => ?_) (fun _ h => ?_)
    · exact WM.drop [] rfl (t_X8_put_49 h)
    · refine r_bipush (pc' := 48) d_X8_put_46 cb_m2 rfl ?_
      exact r_iret d_X8_put_48 rfl h
def f_X8_put (v1 : Int32) (v2 : Int32) (v3 : Int32) (σ : SS) : Option (Int32 × SS) := cal (f_X8_isAssembly v1 σ) (fun x2 s1 => if x2 = 0 then (some ((-1 : Int32), s1)) else (if v3 = 0 then (cal (f_X8_isPiece v2 s1) (fun x4 s3 => if x4 = 0 then (some ((-1 : Int32), s3)) else (f_X8_put_33 v1 v2 v3 s3))) else (cal (f_X8_isAssembly v2 s1) (fun x6 s5 => if x6 = 0 then (some ((-1 : Int32), s5)) else (f_X8_put_33 v1 v2 v3 s5)))))
set_option maxRecDepth 20000 in
theorem t_X8_put {d : Nat} {b : Nat × Nat} {v1 : Int32} {v2 : Int32} {v3 : Int32} {σ : SS} {r : Int32} {σ' : SS} (h : f_X8_put v1 v2 v3 σ = some (r, σ')) : MM (d + 2) b mi_X8_put [vR 25 0, vI v1, vI v2, vI v3] σ (some (vI r), σ') := by
  refine MM.of (lv := [some (vR 25 0), some (vI v1), some (vI v2), some (vI v3), none]) (by decide +kernel) rfl rfl (fun X Y => ?_)
  rw [f_X8_put] at h
  refine r_aload_n (pc' := 1) d_X8_put_0 rfl rfl rfl ?_
  refine r_iload_n (pc' := 2) d_X8_put_1 rfl rfl rfl ?_
  refine v1_i (mc := mi_X8_isAssembly) (bc := (0, 0)) (b' := _) (pc' := 5) cw_X8_289 d_X8_put_2 rfl rfl rfl (Nat.zero_add _).symm (Nat.zero_add _).symm rfl h (fun _ _ e => t_X8_isAssembly e) (fun x2 s1 h => ?_)
  refine r_if_eq (pcT := 31) (pc' := 8) d_X8_put_5 rfl rfl h (fun _ h => ?_) (fun _ h => ?_)
  · refine r_iconst (pc' := 32) d_X8_put_31 ci_m1 rfl ?_
    exact r_iret d_X8_put_32 rfl h
  · refine r_iload_n (pc' := 9) d_X8_put_8 rfl rfl rfl ?_
    refine r_if_eq (pcT := 23) (pc' := 12) d_X8_put_9 rfl rfl h (fun _ h => ?_) (fun _ h => ?_)
    · refine r_aload_n (pc' := 24) d_X8_put_23 rfl rfl rfl ?_
      refine r_iload_n (pc' := 25) d_X8_put_24 rfl rfl rfl ?_
      refine v1_i (mc := mi_X8_isPiece) (bc := (0, 0)) (b' := _) (pc' := 28) cw_X8_192 d_X8_put_25 rfl rfl rfl (Nat.zero_add _).symm (Nat.zero_add _).symm rfl h (fun _ _ e => t_X8_isPiece e) (fun x4 s3 h => ?_)
      refine r_if_ne (pcT := 33) (pc' := 31) d_X8_put_28 rfl rfl h (fun _ h => ?_) (fun _ h => ?_)
      · refine r_iconst (pc' := 32) d_X8_put_31 ci_m1 rfl ?_
        exact r_iret d_X8_put_32 rfl h
      · exact WM.drop [] rfl (t_X8_put_33 h)
    · refine r_aload_n (pc' := 13) d_X8_put_12 rfl rfl rfl ?_
      refine r_iload_n (pc' := 14) d_X8_put_13 rfl rfl rfl ?_
      refine v1_i (mc := mi_X8_isAssembly) (bc := (0, 0)) (b' := _) (pc' := 17) cw_X8_289 d_X8_put_14 rfl rfl rfl (Nat.zero_add _).symm (Nat.zero_add _).symm rfl h (fun _ _ e => t_X8_isAssembly e) (fun x6 s5 h => ?_)
      refine r_if_ne (pcT := 33) (pc' := 20) d_X8_put_17 rfl rfl h (fun _ h => ?_) (fun _ h => ?_)
      · refine r_goto (pc' := 31) d_X8_put_20 rfl ?_
        refine r_iconst (pc' := 32) d_X8_put_31 ci_m1 rfl ?_
        exact r_iret d_X8_put_32 rfl h
      · exact WM.drop [] rfl (t_X8_put_33 h)
/-! OctagonYardModel.walked(I)I -/
def mi_X8_walked : MI := (yX8_walked, cX8_walked, 2, (some .int))
theorem d_X8_walked_0 : decode mi_X8_walked.2.1 0 = .ok (.aload_n 0, 1) := by decide +kernel
theorem d_X8_walked_1 : decode mi_X8_walked.2.1 1 = .ok (.iload_n 1, 1) := by decide +kernel
theorem d_X8_walked_2 : decode mi_X8_walked.2.1 2 = .ok (.invokevirtual 289, 3) := by decide +kernel
theorem d_X8_walked_5 : decode mi_X8_walked.2.1 5 = .ok (.ifCond .ne 5, 3) := by decide +kernel
theorem d_X8_walked_8 : decode mi_X8_walked.2.1 8 = .ok (.iconst (-1), 1) := by decide +kernel
theorem d_X8_walked_9 : decode mi_X8_walked.2.1 9 = .ok (.ireturn, 1) := by decide +kernel
theorem d_X8_walked_10 : decode mi_X8_walked.2.1 10 = .ok (.aload_n 0, 1) := by decide +kernel
theorem d_X8_walked_11 : decode mi_X8_walked.2.1 11 = .ok (.invokevirtual 295, 3) := by decide +kernel
theorem d_X8_walked_14 : decode mi_X8_walked.2.1 14 = .ok (.pop, 1) := by decide +kernel
theorem d_X8_walked_15 : decode mi_X8_walked.2.1 15 = .ok (.aload_n 0, 1) := by decide +kernel
theorem d_X8_walked_16 : decode mi_X8_walked.2.1 16 = .ok (.getfield 119, 3) := by decide +kernel
theorem d_X8_walked_19 : decode mi_X8_walked.2.1 19 = .ok (.iload_n 1, 1) := by decide +kernel
theorem d_X8_walked_20 : decode mi_X8_walked.2.1 20 = .ok (.iaload, 1) := by decide +kernel
theorem d_X8_walked_21 : decode mi_X8_walked.2.1 21 = .ok (.ireturn, 1) := by decide +kernel
def f_X8_walked (v1 : Int32) (σ : SS) : Option (Int32 × SS) := cal (f_X8_isAssembly v1 σ) (fun x2 s1 => if x2 = 0 then (some ((-1 : Int32), s1)) else (cal (f_X8_countWalks  s1) (fun x4 s3 => chk (inr v1 12) (some ((s3.1 85 0 (ix v1)), s3)))))
set_option maxRecDepth 20000 in
theorem t_X8_walked {d : Nat} {b : Nat × Nat} {v1 : Int32} {σ : SS} {r : Int32} {σ' : SS} (h : f_X8_walked v1 σ = some (r, σ')) : MM (d + 2) b mi_X8_walked [vR 25 0, vI v1] σ (some (vI r), σ') := by
  refine MM.of (lv := [some (vR 25 0), some (vI v1)]) (by decide +kernel) rfl rfl (fun X Y => ?_)
  rw [f_X8_walked] at h
  refine r_aload_n (pc' := 1) d_X8_walked_0 rfl rfl rfl ?_
  refine r_iload_n (pc' := 2) d_X8_walked_1 rfl rfl rfl ?_
  refine v1_i (mc := mi_X8_isAssembly) (bc := (0, 0)) (b' := _) (pc' := 5) cw_X8_289 d_X8_walked_2 rfl rfl rfl (Nat.zero_add _).symm (Nat.zero_add _).symm rfl h (fun _ _ e => t_X8_isAssembly e) (fun x2 s1 h => ?_)
  refine r_if_ne (pcT := 10) (pc' := 8) d_X8_walked_5 rfl rfl h (fun _ h => ?_) (fun _ h => ?_)
  · refine r_iconst (pc' := 9) d_X8_walked_8 ci_m1 rfl ?_
    exact r_iret d_X8_walked_9 rfl h
  · refine r_aload_n (pc' := 11) d_X8_walked_10 rfl rfl rfl ?_
    refine v0_i (mc := mi_X8_countWalks) (bc := (0, 0)) (b' := _) (pc' := 14) cw_X8_295 d_X8_walked_11 rfl rfl rfl (Nat.zero_add _).symm (Nat.zero_add _).symm rfl h (fun _ _ e => t_X8_countWalks e) (fun x4 s3 h => ?_)
    refine r_pop (pc' := 15) d_X8_walked_14 rfl rfl ?_
    refine r_aload_n (pc' := 16) d_X8_walked_15 rfl rfl rfl ?_
    refine r_get (v := vR 85 _) (pc' := 19) fl_X8_119 d_X8_walked_16 rfl rfl (fun g => Or.inl ⟨rfl, g.2⟩) rfl ?_
    refine r_iload_n (pc' := 20) d_X8_walked_19 rfl rfl rfl ?_
    refine r_iaload (pc' := 21) d_X8_walked_20 rfl (fun _ => rfl) rfl h (fun h => ?_)
    exact r_iret d_X8_walked_21 rfl h
/-! OctagonYardModel.walkedAt(II)I -/
def mi_X8_walkedAt : MI := (yX8_walkedAt, cX8_walkedAt, 8, (some .int))
theorem d_X8_walkedAt_0 : decode mi_X8_walkedAt.2.1 0 = .ok (.iload_n 1, 1) := by decide +kernel
theorem d_X8_walkedAt_1 : decode mi_X8_walkedAt.2.1 1 = .ok (.istore_n 3, 1) := by decide +kernel
theorem d_X8_walkedAt_2 : decode mi_X8_walkedAt.2.1 2 = .ok (.iload_n 2, 1) := by decide +kernel
theorem d_X8_walkedAt_3 : decode mi_X8_walkedAt.2.1 3 = .ok (.istore 4, 2) := by decide +kernel
theorem d_X8_walkedAt_5 : decode mi_X8_walkedAt.2.1 5 = .ok (.iconst 0, 1) := by decide +kernel
theorem d_X8_walkedAt_6 : decode mi_X8_walkedAt.2.1 6 = .ok (.istore 5, 2) := by decide +kernel
theorem d_X8_walkedAt_8 : decode mi_X8_walkedAt.2.1 8 = .ok (.bipush 20, 2) := by decide +kernel
theorem d_X8_walkedAt_10 : decode mi_X8_walkedAt.2.1 10 = .ok (.iload_n 3, 1) := by decide +kernel
theorem d_X8_walkedAt_11 : decode mi_X8_walkedAt.2.1 11 = .ok (.imul, 1) := by decide +kernel
theorem d_X8_walkedAt_12 : decode mi_X8_walkedAt.2.1 12 = .ok (.iload 5, 2) := by decide +kernel
theorem d_X8_walkedAt_14 : decode mi_X8_walkedAt.2.1 14 = .ok (.iadd, 1) := by decide +kernel
theorem d_X8_walkedAt_15 : decode mi_X8_walkedAt.2.1 15 = .ok (.istore 6, 2) := by decide +kernel
theorem d_X8_walkedAt_17 : decode mi_X8_walkedAt.2.1 17 = .ok (.aload_n 0, 1) := by decide +kernel
theorem d_X8_walkedAt_18 : decode mi_X8_walkedAt.2.1 18 = .ok (.getfield 116, 3) := by decide +kernel
theorem d_X8_walkedAt_21 : decode mi_X8_walkedAt.2.1 21 = .ok (.iload 6, 2) := by decide +kernel
theorem d_X8_walkedAt_23 : decode mi_X8_walkedAt.2.1 23 = .ok (.baload, 1) := by decide +kernel
theorem d_X8_walkedAt_24 : decode mi_X8_walkedAt.2.1 24 = .ok (.ifCond .eq 18, 3) := by decide +kernel
theorem d_X8_walkedAt_27 : decode mi_X8_walkedAt.2.1 27 = .ok (.aload_n 0, 1) := by decide +kernel
theorem d_X8_walkedAt_28 : decode mi_X8_walkedAt.2.1 28 = .ok (.getfield 119, 3) := by decide +kernel
theorem d_X8_walkedAt_31 : decode mi_X8_walkedAt.2.1 31 = .ok (.aload_n 0, 1) := by decide +kernel
theorem d_X8_walkedAt_32 : decode mi_X8_walkedAt.2.1 32 = .ok (.getfield 113, 3) := by decide +kernel
theorem d_X8_walkedAt_35 : decode mi_X8_walkedAt.2.1 35 = .ok (.iload 6, 2) := by decide +kernel
theorem d_X8_walkedAt_37 : decode mi_X8_walkedAt.2.1 37 = .ok (.iaload, 1) := by decide +kernel
theorem d_X8_walkedAt_38 : decode mi_X8_walkedAt.2.1 38 = .ok (.iaload, 1) := by decide +kernel
theorem d_X8_walkedAt_39 : decode mi_X8_walkedAt.2.1 39 = .ok (.goto 4, 3) := by decide +kernel
theorem d_X8_walkedAt_42 : decode mi_X8_walkedAt.2.1 42 = .ok (.iconst 1, 1) := by decide +kernel
theorem d_X8_walkedAt_43 : decode mi_X8_walkedAt.2.1 43 = .ok (.istore 7, 2) := by decide +kernel
theorem d_X8_walkedAt_45 : decode mi_X8_walkedAt.2.1 45 = .ok (.iload 4, 2) := by decide +kernel
theorem d_X8_walkedAt_47 : decode mi_X8_walkedAt.2.1 47 = .ok (.iload 7, 2) := by decide +kernel
theorem d_X8_walkedAt_49 : decode mi_X8_walkedAt.2.1 49 = .ok (.if_icmp .lt 16, 3) := by decide +kernel
theorem d_X8_walkedAt_52 : decode mi_X8_walkedAt.2.1 52 = .ok (.iload 4, 2) := by decide +kernel
theorem d_X8_walkedAt_54 : decode mi_X8_walkedAt.2.1 54 = .ok (.iload 7, 2) := by decide +kernel
theorem d_X8_walkedAt_56 : decode mi_X8_walkedAt.2.1 56 = .ok (.isub, 1) := by decide +kernel
theorem d_X8_walkedAt_57 : decode mi_X8_walkedAt.2.1 57 = .ok (.istore 4, 2) := by decide +kernel
theorem d_X8_walkedAt_59 : decode mi_X8_walkedAt.2.1 59 = .ok (.iinc 5 1, 3) := by decide +kernel
theorem d_X8_walkedAt_62 : decode mi_X8_walkedAt.2.1 62 = .ok (.goto 35, 3) := by decide +kernel
theorem d_X8_walkedAt_65 : decode mi_X8_walkedAt.2.1 65 = .ok (.aload_n 0, 1) := by decide +kernel
theorem d_X8_walkedAt_66 : decode mi_X8_walkedAt.2.1 66 = .ok (.getfield 116, 3) := by decide +kernel
theorem d_X8_walkedAt_69 : decode mi_X8_walkedAt.2.1 69 = .ok (.iload 6, 2) := by decide +kernel
theorem d_X8_walkedAt_71 : decode mi_X8_walkedAt.2.1 71 = .ok (.baload, 1) := by decide +kernel
theorem d_X8_walkedAt_72 : decode mi_X8_walkedAt.2.1 72 = .ok (.ifCond .eq 17, 3) := by decide +kernel
theorem d_X8_walkedAt_75 : decode mi_X8_walkedAt.2.1 75 = .ok (.aload_n 0, 1) := by decide +kernel
theorem d_X8_walkedAt_76 : decode mi_X8_walkedAt.2.1 76 = .ok (.getfield 113, 3) := by decide +kernel
theorem d_X8_walkedAt_79 : decode mi_X8_walkedAt.2.1 79 = .ok (.iload 6, 2) := by decide +kernel
theorem d_X8_walkedAt_81 : decode mi_X8_walkedAt.2.1 81 = .ok (.iaload, 1) := by decide +kernel
theorem d_X8_walkedAt_82 : decode mi_X8_walkedAt.2.1 82 = .ok (.istore_n 3, 1) := by decide +kernel
theorem d_X8_walkedAt_83 : decode mi_X8_walkedAt.2.1 83 = .ok (.iconst 0, 1) := by decide +kernel
theorem d_X8_walkedAt_84 : decode mi_X8_walkedAt.2.1 84 = .ok (.istore 5, 2) := by decide +kernel
theorem d_X8_walkedAt_86 : decode mi_X8_walkedAt.2.1 86 = .ok (.goto 11, 3) := by decide +kernel
theorem d_X8_walkedAt_89 : decode mi_X8_walkedAt.2.1 89 = .ok (.aload_n 0, 1) := by decide +kernel
theorem d_X8_walkedAt_90 : decode mi_X8_walkedAt.2.1 90 = .ok (.getfield 113, 3) := by decide +kernel
theorem d_X8_walkedAt_93 : decode mi_X8_walkedAt.2.1 93 = .ok (.iload 6, 2) := by decide +kernel
theorem d_X8_walkedAt_95 : decode mi_X8_walkedAt.2.1 95 = .ok (.iaload, 1) := by decide +kernel
theorem d_X8_walkedAt_96 : decode mi_X8_walkedAt.2.1 96 = .ok (.ireturn, 1) := by decide +kernel
theorem d_X8_walkedAt_97 : decode mi_X8_walkedAt.2.1 97 = .ok (.goto (-89), 3) := by decide +kernel
def f_X8_walkedAt_89 (v6 : Int32) (σ : SS) : Option (Int32 × SS) := chk (inr v6 240) (some ((σ.1 83 0 (ix v6)), σ))
set_option maxRecDepth 20000 in
theorem t_X8_walkedAt_89 {d : Nat} {X : MX} {Y : MY} {b : Nat × Nat} {r : Int32} {σ' : SS} {v6 : Int32} {σ : SS} (h : f_X8_walkedAt_89 v6 σ = some (r, σ')) : WM d X Y b mi_X8_walkedAt 89 [some (vR 25 0), none, none, none, none, none, some (vI v6), none] [] σ (some (vI r), σ') := by
  rw [f_X8_walkedAt_89] at h
  refine r_aload_n (pc' := 90) d_X8_walkedAt_89 rfl rfl rfl ?_
  refine r_get (v := vR 83 _) (pc' := 93) fl_X8_113 d_X8_walkedAt_90 rfl rfl (fun g => Or.inl ⟨rfl, g.2⟩) rfl ?_
  refine r_iload (pc' := 95) d_X8_walkedAt_93 rfl rfl ?_
  refine r_iaload (pc' := 96) d_X8_walkedAt_95 rfl (fun _ => rfl) rfl h (fun h => ?_)
  exact r_iret d_X8_walkedAt_96 rfl h
def f_X8_walkedAt_97 (K8 : Int32 → Int32 → Int32 → SS → Option (Int32 × SS)) (v3 : Int32) (v4 : Int32) (v5 : Int32) (σ : SS) : Option (Int32 × SS) := K8 v3 v4 v5 σ
set_option maxRecDepth 20000 in
theorem t_X8_walkedAt_97 {d : Nat} {X : MX} {Y : MY} {b : Nat × Nat} {r : Int32} {σ' : SS} {K8 : Int32 → Int32 → Int32 → SS → Option (Int32 × SS)} {v3 : Int32} {v4 : Int32} {v5 : Int32} (hK8 : ∀ (v3 : Int32) (v4 : Int32) (v5 : Int32) (σ : SS), K8 v3 v4 v5 σ = some (r, σ') → WM d X Y b mi_X8_walkedAt 8 [some (vR 25 0), none, none, some (vI v3), some (vI v4), some (vI v5), none, none] [] σ (some (vI r), σ')) {σ : SS} (h : f_X8_walkedAt_97 K8 v3 v4 v5 σ = some (r, σ')) : WM d X Y b mi_X8_walkedAt 97 [some (vR 25 0), none, none, some (vI v3), some (vI v4), some (vI v5), none, none] [] σ (some (vI r), σ') := by
  rw [f_X8_walkedAt_97] at h
  refine r_goto (pc' := 8) d_X8_walkedAt_97 rfl ?_
  exact WM.drop [] rfl (hK8 _ _ _ _ h)
def f_X8_walkedAt_43 (K8 : Int32 → Int32 → Int32 → SS → Option (Int32 × SS)) (v3 : Int32) (v4 : Int32) (v5 : Int32) (v6 : Int32) (u0 : Int32) (σ : SS) : Option (Int32 × SS) := if v4 < u0 then (chk (inr v6 240) (if (σ.1 84 0 (ix v6)) = 0 then (f_X8_walkedAt_89 v6 σ) else (chk (inr v6 240) (lt_ (σ.1 83 0 (ix v6)) (fun x1 => f_X8_walkedAt_97 K8 x1 v4 (0 : Int32) σ))))) else (lt_ (v4 - u0) (fun x2 => lt_ (v5 + (1 : Int32)) (fun x3 => f_X8_walkedAt_97 K8 v3 x2 x3 σ)))
set_option maxRecDepth 20000 in
theorem t_X8_walkedAt_43 {d : Nat} {X : MX} {Y : MY} {b : Nat × Nat} {r : Int32} {σ' : SS} {K8 : Int32 → Int32 → Int32 → SS → Option (Int32 × SS)} {v3 : Int32} {v4 : Int32} {v5 : Int32} {v6 : Int32} {u0 : Int32} (hK8 : ∀ (v3 : Int32) (v4 : Int32) (v5 : Int32) (σ : SS), K8 v3 v4 v5 σ = some (r, σ') → WM d X Y b mi_X8_walkedAt 8 [some (vR 25 0), none, none, some (vI v3), some (vI v4), some (vI v5), none, none] [] σ (some (vI r), σ')) {σ : SS} (h : f_X8_walkedAt_43 K8 v3 v4 v5 v6 u0 σ = some (r, σ')) : WM d X Y b mi_X8_walkedAt 43 [some (vR 25 0), none, none, some (vI v3), some (vI v4), some (vI v5), some (vI v6), none] [vI u0] σ (some (vI r), σ') := by
  rw [f_X8_walkedAt_43] at h
  refine r_istore (pc' := 45) d_X8_walkedAt_43 rfl rfl rfl ?_
  refine r_iload (pc' := 47) d_X8_walkedAt_45 rfl rfl ?_
  refine r_iload (pc' := 49) d_X8_walkedAt_47 rfl rfl ?_
  refine r_icmp_lt (pcT := 65) (pc' := 52) d_X8_walkedAt_49 rfl rfl h (fun _ h => ?_) (fun _ h => ?_)
  · refine r_aload_n (pc' := 66) d_X8_walkedAt_65 rfl rfl rfl ?_
    refine r_get (v := vR 84 _) (pc' := 69) fl_X8_116 d_X8_walkedAt_66 rfl rfl (fun g => Or.inl ⟨rfl, g.2⟩) rfl ?_
    refine r_iload (pc' := 71) d_X8_walkedAt_69 rfl rfl ?_
    refine r_baload (pc' := 72) d_X8_walkedAt_71 rfl (fun _ => rfl) rfl h (fun h => ?_)
    refine r_if_eq (pcT := 89) (pc' := 75) d_X8_walkedAt_72 rfl rfl h (fun _ h => ?_) (fun _ h => ?_)
    · exact WM.drop [3, 4, 5, 7] rfl (t_X8_walkedAt_89 h)
    · refine r_aload_n (pc' := 76) d_X8_walkedAt_75 rfl rfl rfl ?_
      refine r_get (v := vR 83 _) (pc' := 79) fl_X8_113 d_X8_walkedAt_76 rfl rfl (fun g => Or.inl ⟨rfl, g.2⟩) rfl ?_
      refine r_iload (pc' := 81) d_X8_walkedAt_79 rfl rfl ?_
      refine r_iaload (pc' := 82) d_X8_walkedAt_81 rfl (fun _ => rfl) rfl h (fun h => ?_)
      refine l_istore_n (pc' := 83) d_X8_walkedAt_82 rfl rfl rfl rfl h (fun x1 h => ?_)
      refine r_iconst (pc' := 84) d_X8_walkedAt_83 ci_0 rfl ?_
      refine r_istore (pc' := 86) d_X8_walkedAt_84 rfl rfl rfl ?_
      refine r_goto (pc' := 97) d_X8_walkedAt_86 rfl ?_
      exact WM.drop [6, 7] rfl (t_X8_walkedAt_97 hK8 h)
  · refine r_iload (pc' := 54) d_X8_walkedAt_52 rfl rfl ?_
    refine r_iload (pc' := 56) d_X8_walkedAt_54 rfl rfl ?_
    refine r_isub (pc' := 57) d_X8_walkedAt_56 rfl ?_
    refine l_istore (pc' := 59) d_X8_walkedAt_57 rfl rfl rfl h (fun x2 h => ?_)
    refine l_iinc (pc' := 62) d_X8_walkedAt_59 rfl ci_1 rfl rfl rfl h (fun x3 h => ?_)
    refine r_goto (pc' := 97) d_X8_walkedAt_62 rfl ?_
    exact WM.drop [6, 7] rfl (t_X8_walkedAt_97 hK8 h)
def f_X8_walkedAt_8 : Nat → Int32 → Int32 → Int32 → SS → Option (Int32 × SS)
  | 0, _, _, _, _ => none
  | n + 1, v3, v4, v5, σ => lt_ (((20 : Int32) * v3) + v5) (fun x1 => chk (inr x1 240) (if (σ.1 84 0 (ix x1)) = 0 then (f_X8_walkedAt_43 (f_X8_walkedAt_8 n) v3 v4 v5 x1 (1 : Int32) σ) else (chk (inr x1 240) (chk (inr (σ.1 83 0 (ix x1)) 12) (f_X8_walkedAt_43 (f_X8_walkedAt_8 n) v3 v4 v5 x1 (σ.1 85 0 (ix (σ.1 83 0 (ix x1)))) σ)))))
set_option maxRecDepth 20000 in
theorem t_X8_walkedAt_8 {d : Nat} {X : MX} {Y : MY} {b : Nat × Nat} {r : Int32} {σ' : SS} : ∀ (n : Nat) (v3 : Int32) (v4 : Int32) (v5 : Int32) (σ : SS), f_X8_walkedAt_8 n v3 v4 v5 σ = some (r, σ') → WM d X Y b mi_X8_walkedAt 8 [some (vR 25 0), none, none, some (vI v3), some (vI v4), some (vI v5), none, none] [] σ (some (vI r), σ') := by
  intro n
  induction n with
  | zero => intro _ _ _ σ h; cases h
  | succ n ih =>
    intro v3 v4 v5 σ h
    rw [f_X8_walkedAt_8] at h
    refine r_bipush (pc' := 10) d_X8_walkedAt_8 cb_20 rfl ?_
    refine r_iload_n (pc' := 11) d_X8_walkedAt_10 rfl rfl rfl ?_
    refine r_imul (pc' := 12) d_X8_walkedAt_11 rfl ?_
    refine r_iload (pc' := 14) d_X8_walkedAt_12 rfl rfl ?_
    refine r_iadd (pc' := 15) d_X8_walkedAt_14 rfl ?_
    refine l_istore (pc' := 17) d_X8_walkedAt_15 rfl rfl rfl h (fun x1 h => ?_)
    refine r_aload_n (pc' := 18) d_X8_walkedAt_17 rfl rfl rfl ?_
    refine r_get (v := vR 84 _) (pc' := 21) fl_X8_116 d_X8_walkedAt_18 rfl rfl (fun g => Or.inl ⟨rfl, g.2⟩) rfl ?_
    refine r_iload (pc' := 23) d_X8_walkedAt_21 rfl rfl ?_
    refine r_baload (pc' := 24) d_X8_walkedAt_23 rfl (fun _ => rfl) rfl h (fun h => ?_)
    refine r_if_eq (pcT := 42) (pc' := 27) d_X8_walkedAt_24 rfl rfl h (fun _ h => ?_) (fun _ h => ?_)
    · refine r_iconst (pc' := 43) d_X8_walkedAt_42 ci_1 rfl ?_
      exact WM.drop [] rfl (t_X8_walkedAt_43 ih h)
    · refine r_aload_n (pc' := 28) d_X8_walkedAt_27 rfl rfl rfl ?_
      refine r_get (v := vR 85 _) (pc' := 31) fl_X8_119 d_X8_walkedAt_28 rfl rfl (fun g => Or.inl ⟨rfl, g.2⟩) rfl ?_
      refine r_aload_n (pc' := 32) d_X8_walkedAt_31 rfl rfl rfl ?_
      refine r_get (v := vR 83 _) (pc' := 35) fl_X8_113 d_X8_walkedAt_32 rfl rfl (fun g => Or.inl ⟨rfl, g.2⟩) rfl ?_
      refine r_iload (pc' := 37) d_X8_walkedAt_35 rfl rfl ?_
      refine r_iaload (pc' := 38) d_X8_walkedAt_37 rfl (fun _ => rfl) rfl h (fun h => ?_)
      refine r_iaload (pc' := 39) d_X8_walkedAt_38 rfl (fun _ => rfl) rfl h (fun h => ?_)
      refine r_goto (pc' := 43) d_X8_walkedAt_39 rfl ?_
      exact WM.drop [] rfl (t_X8_walkedAt_43 ih h)
def f_X8_walkedAt (v1 : Int32) (v2 : Int32) (σ : SS) : Option (Int32 × SS) := f_X8_walkedAt_8 FU v1 v2 (0 : Int32) σ
set_option maxRecDepth 20000 in
theorem t_X8_walkedAt {d : Nat} {b : Nat × Nat} {v1 : Int32} {v2 : Int32} {σ : SS} {r : Int32} {σ' : SS} (h : f_X8_walkedAt v1 v2 σ = some (r, σ')) : MM d b mi_X8_walkedAt [vR 25 0, vI v1, vI v2] σ (some (vI r), σ') := by
  refine MM.of (lv := [some (vR 25 0), some (vI v1), some (vI v2), none, none, none, none, none]) (by decide +kernel) rfl rfl (fun X Y => ?_)
  rw [f_X8_walkedAt] at h
  refine r_iload_n (pc' := 1) d_X8_walkedAt_0 rfl rfl rfl ?_
  refine r_istore_n (pc' := 2) d_X8_walkedAt_1 rfl rfl rfl rfl ?_
  refine r_iload_n (pc' := 3) d_X8_walkedAt_2 rfl rfl rfl ?_
  refine r_istore (pc' := 5) d_X8_walkedAt_3 rfl rfl rfl ?_
  refine r_iconst (pc' := 6) d_X8_walkedAt_5 ci_0 rfl ?_
  refine r_istore (pc' := 8) d_X8_walkedAt_6 rfl rfl rfl ?_
  exact WM.drop [1, 2] rfl (t_X8_walkedAt_8 _ _ _ _ _ h)
/-! OctagonYardModel.walk(II)I -/
def mi_X8_walk : MI := (yX8_walk, cX8_walk, 3, (some .int))
theorem d_X8_walk_0 : decode mi_X8_walk.2.1 0 = .ok (.aload_n 0, 1) := by decide +kernel
theorem d_X8_walk_1 : decode mi_X8_walk.2.1 1 = .ok (.iload_n 1, 1) := by decide +kernel
theorem d_X8_walk_2 : decode mi_X8_walk.2.1 2 = .ok (.invokevirtual 289, 3) := by decide +kernel
theorem d_X8_walk_5 : decode mi_X8_walk.2.1 5 = .ok (.ifCond .eq 7, 3) := by decide +kernel
theorem d_X8_walk_8 : decode mi_X8_walk.2.1 8 = .ok (.iload_n 2, 1) := by decide +kernel
theorem d_X8_walk_9 : decode mi_X8_walk.2.1 9 = .ok (.ifCond .ge 5, 3) := by decide +kernel
theorem d_X8_walk_12 : decode mi_X8_walk.2.1 12 = .ok (.iconst (-1), 1) := by decide +kernel
theorem d_X8_walk_13 : decode mi_X8_walk.2.1 13 = .ok (.ireturn, 1) := by decide +kernel
theorem d_X8_walk_14 : decode mi_X8_walk.2.1 14 = .ok (.aload_n 0, 1) := by decide +kernel
theorem d_X8_walk_15 : decode mi_X8_walk.2.1 15 = .ok (.invokevirtual 295, 3) := by decide +kernel
theorem d_X8_walk_18 : decode mi_X8_walk.2.1 18 = .ok (.pop, 1) := by decide +kernel
theorem d_X8_walk_19 : decode mi_X8_walk.2.1 19 = .ok (.iload_n 2, 1) := by decide +kernel
theorem d_X8_walk_20 : decode mi_X8_walk.2.1 20 = .ok (.aload_n 0, 1) := by decide +kernel
theorem d_X8_walk_21 : decode mi_X8_walk.2.1 21 = .ok (.getfield 119, 3) := by decide +kernel
theorem d_X8_walk_24 : decode mi_X8_walk.2.1 24 = .ok (.iload_n 1, 1) := by decide +kernel
theorem d_X8_walk_25 : decode mi_X8_walk.2.1 25 = .ok (.iaload, 1) := by decide +kernel
theorem d_X8_walk_26 : decode mi_X8_walk.2.1 26 = .ok (.if_icmp .ge 12, 3) := by decide +kernel
theorem d_X8_walk_29 : decode mi_X8_walk.2.1 29 = .ok (.aload_n 0, 1) := by decide +kernel
theorem d_X8_walk_30 : decode mi_X8_walk.2.1 30 = .ok (.iload_n 1, 1) := by decide +kernel
theorem d_X8_walk_31 : decode mi_X8_walk.2.1 31 = .ok (.iload_n 2, 1) := by decide +kernel
theorem d_X8_walk_32 : decode mi_X8_walk.2.1 32 = .ok (.invokevirtual 298, 3) := by decide +kernel
theorem d_X8_walk_35 : decode mi_X8_walk.2.1 35 = .ok (.goto 5, 3) := by decide +kernel
theorem d_X8_walk_38 : decode mi_X8_walk.2.1 38 = .ok (.bipush (-4), 2) := by decide +kernel
theorem d_X8_walk_40 : decode mi_X8_walk.2.1 40 = .ok (.ireturn, 1) := by decide +kernel
theorem cw_X8_298 : CV RX8 298 mi_X8_walkedAt 2 := by unfold CV; decide +kernel
def f_X8_walk (v1 : Int32) (v2 : Int32) (σ : SS) : Option (Int32 × SS) := cal (f_X8_isAssembly v1 σ) (fun x2 s1 => if x2 = 0 then (some ((-1 : Int32), s1)) else (if 0 ≤ v2 then (cal (f_X8_countWalks  s1) (fun x4 s3 => chk (inr v1 12) (if (s3.1 85 0 (ix v1)) ≤ v2 then (some ((-4 : Int32), s3)) else (cal (f_X8_walkedAt v1 v2 s3) (fun x6 s5 => some (x6, s5)))))) else (some ((-1 : Int32), s1))))
set_option maxRecDepth 20000 in
theorem t_X8_walk {d : Nat} {b : Nat × Nat} {v1 : Int32} {v2 : Int32} {σ : SS} {r : Int32} {σ' : SS} (h : f_X8_walk v1 v2 σ = some (r, σ')) : MM (d + 2) b mi_X8_walk [vR 25 0, vI v1, vI v2] σ (some (vI r), σ') := by
  refine MM.of (lv := [some (vR 25 0), some (vI v1), some (vI v2)]) (by decide +kernel) rfl rfl (fun X Y => ?_)
  rw [f_X8_walk] at h
  refine r_aload_n (pc' := 1) d_X8_walk_0 rfl rfl rfl ?_
  refine r_iload_n (pc' := 2) d_X8_walk_1 rfl rfl rfl ?_
  refine v1_i (mc := mi_X8_isAssembly) (bc := (0, 0)) (b' := _) (pc' := 5) cw_X8_289 d_X8_walk_2 rfl rfl rfl (Nat.zero_add _).symm (Nat.zero_add _).symm rfl h (fun _ _ e => t_X8_isAssembly e) (fun x2 s1 h => ?_)
  refine r_if_eq (pcT := 12) (pc' := 8) d_X8_walk_5 rfl rfl h (fun _ h => ?_) (fun _ h => ?_)
  · refine r_iconst (pc' := 13) d_X8_walk_12 ci_m1 rfl ?_
    exact r_iret d_X8_walk_13 rfl h
  · refine r_iload_n (pc' := 9) d_X8_walk_8 rfl rfl rfl ?_
    refine r_if_ge (pcT := 14) (pc' := 12) d_X8_walk_9 rfl rfl h (fun _ h => ?_) (fun _ h => ?_)
    · refine r_aload_n (pc' := 15) d_X8_walk_14 rfl rfl rfl ?_
      refine v0_i (mc := mi_X8_countWalks) (bc := (0, 0)) (b' := _) (pc' := 18) cw_X8_295 d_X8_walk_15 rfl rfl rfl (Nat.zero_add _).symm (Nat.zero_add _).symm rfl h (fun _ _ e => t_X8_countWalks e) (fun x4 s3 h => ?_)
      refine r_pop (pc' := 19) d_X8_walk_18 rfl rfl ?_
      refine r_iload_n (pc' := 20) d_X8_walk_19 rfl rfl rfl ?_
      refine r_aload_n (pc' := 21) d_X8_walk_20 rfl rfl rfl ?_
      refine r_get (v := vR 85 _) (pc' := 24) fl_X8_119 d_X8_walk_21 rfl rfl (fun g => Or.inl ⟨rfl, g.2⟩) rfl ?_
      refine r_iload_n (pc' := 25) d_X8_walk_24 rfl rfl rfl ?_
      refine r_iaload (pc' := 26) d_X8_walk_25 rfl (fun _ => rfl) rfl h (fun h => ?_)
      refine r_icmp_ge (pcT := 38) (pc' := 29) d_X8_walk_26 rfl rfl h (fun _ h => ?_) (fun _ h => ?_)
      · refine r_bipush (pc' := 40) d_X8_walk_38 cb_m4 rfl ?_
        exact r_iret d_X8_walk_40 rfl h
      · refine r_aload_n (pc' := 30) d_X8_walk_29 rfl rfl rfl ?_
        refine r_iload_n (pc' := 31) d_X8_walk_30 rfl rfl rfl ?_
        refine r_iload_n (pc' := 32) d_X8_walk_31 rfl rfl rfl ?_
        refine v2_i (mc := mi_X8_walkedAt) (bc := (0, 0)) (b' := _) (pc' := 35) cw_X8_298 d_X8_walk_32 rfl rfl rfl (Nat.zero_add _).symm (Nat.zero_add _).symm rfl h (fun _ _ e => t_X8_walkedAt e) (fun x6 s5 h => ?_)
        refine r_goto (pc' := 40) d_X8_walk_35 rfl ?_
        exact r_iret d_X8_walk_40 rfl h
    · refine r_iconst (pc' := 13) d_X8_walk_12 ci_m1 rfl ?_
      exact r_iret d_X8_walk_13 rfl h
/-! OctagonYardModel.weight(I)J -/
def mi_X8_weight : MI := (yX8_weight, cX8_weight, 5, (some .long))
theorem d_X8_weight_0 : decode mi_X8_weight.2.1 0 = .ok (.aload_n 0, 1) := by decide +kernel
theorem d_X8_weight_1 : decode mi_X8_weight.2.1 1 = .ok (.iload_n 1, 1) := by decide +kernel
theorem d_X8_weight_2 : decode mi_X8_weight.2.1 2 = .ok (.invokevirtual 289, 3) := by decide +kernel
theorem d_X8_weight_5 : decode mi_X8_weight.2.1 5 = .ok (.ifCond .ne 7, 3) := by decide +kernel
theorem d_X8_weight_8 : decode mi_X8_weight.2.1 8 = .ok (.ldc2_w 226, 3) := by decide +kernel
theorem d_X8_weight_11 : decode mi_X8_weight.2.1 11 = .ok (.lreturn, 1) := by decide +kernel
theorem d_X8_weight_12 : decode mi_X8_weight.2.1 12 = .ok (.aload_n 0, 1) := by decide +kernel
theorem d_X8_weight_13 : decode mi_X8_weight.2.1 13 = .ok (.invokevirtual 295, 3) := by decide +kernel
theorem d_X8_weight_16 : decode mi_X8_weight.2.1 16 = .ok (.pop, 1) := by decide +kernel
theorem d_X8_weight_17 : decode mi_X8_weight.2.1 17 = .ok (.lconst 0, 1) := by decide +kernel
theorem d_X8_weight_18 : decode mi_X8_weight.2.1 18 = .ok (.lstore_n 2, 1) := by decide +kernel
theorem d_X8_weight_19 : decode mi_X8_weight.2.1 19 = .ok (.iconst 0, 1) := by decide +kernel
theorem d_X8_weight_20 : decode mi_X8_weight.2.1 20 = .ok (.istore 4, 2) := by decide +kernel
theorem d_X8_weight_22 : decode mi_X8_weight.2.1 22 = .ok (.iload 4, 2) := by decide +kernel
theorem d_X8_weight_24 : decode mi_X8_weight.2.1 24 = .ok (.aload_n 0, 1) := by decide +kernel
theorem d_X8_weight_25 : decode mi_X8_weight.2.1 25 = .ok (.getfield 119, 3) := by decide +kernel
theorem d_X8_weight_28 : decode mi_X8_weight.2.1 28 = .ok (.iload_n 1, 1) := by decide +kernel
theorem d_X8_weight_29 : decode mi_X8_weight.2.1 29 = .ok (.iaload, 1) := by decide +kernel
theorem d_X8_weight_30 : decode mi_X8_weight.2.1 30 = .ok (.if_icmp .ge 23, 3) := by decide +kernel
theorem d_X8_weight_33 : decode mi_X8_weight.2.1 33 = .ok (.lload_n 2, 1) := by decide +kernel
theorem d_X8_weight_34 : decode mi_X8_weight.2.1 34 = .ok (.aload_n 0, 1) := by decide +kernel
theorem d_X8_weight_35 : decode mi_X8_weight.2.1 35 = .ok (.aload_n 0, 1) := by decide +kernel
theorem d_X8_weight_36 : decode mi_X8_weight.2.1 36 = .ok (.iload_n 1, 1) := by decide +kernel
theorem d_X8_weight_37 : decode mi_X8_weight.2.1 37 = .ok (.iload 4, 2) := by decide +kernel
theorem d_X8_weight_39 : decode mi_X8_weight.2.1 39 = .ok (.invokevirtual 298, 3) := by decide +kernel
theorem d_X8_weight_42 : decode mi_X8_weight.2.1 42 = .ok (.invokevirtual 301, 3) := by decide +kernel
theorem d_X8_weight_45 : decode mi_X8_weight.2.1 45 = .ok (.ladd, 1) := by decide +kernel
theorem d_X8_weight_46 : decode mi_X8_weight.2.1 46 = .ok (.lstore_n 2, 1) := by decide +kernel
theorem d_X8_weight_47 : decode mi_X8_weight.2.1 47 = .ok (.iinc 4 1, 3) := by decide +kernel
theorem d_X8_weight_50 : decode mi_X8_weight.2.1 50 = .ok (.goto (-28), 3) := by decide +kernel
theorem d_X8_weight_53 : decode mi_X8_weight.2.1 53 = .ok (.lload_n 2, 1) := by decide +kernel
theorem d_X8_weight_54 : decode mi_X8_weight.2.1 54 = .ok (.lreturn, 1) := by decide +kernel
theorem cw_X8_301 : CV RX8 301 mi_X8_volume 1 := by unfold CV; decide +kernel
def f_X8_weight_22 : Nat → Int32 → Int64 → Int32 → SS → Option (Int64 × SS)
  | 0, _, _, _, _ => none
  | n + 1, v1, v2, v4, σ => chk (inr v1 12) (if (σ.1 85 0 (ix v1)) ≤ v4 then (some (v2, σ)) else (cal (f_X8_walkedAt v1 v4 σ) (fun x2 s1 => cal (f_X8_volume x2 s1) (fun x4 s3 => lt_ (v2 + x4) (fun x5 => lt_ (v4 + (1 : Int32)) (fun x6 => f_X8_weight_22 n v1 x5 x6 s3))))))
set_option maxRecDepth 20000 in
theorem t_X8_weight_22 {d : Nat} {X : MX} {Y : MY} {b : Nat × Nat} {r : Int64} {σ' : SS} : ∀ (n : Nat) (v1 : Int32) (v2 : Int64) (v4 : Int32) (σ : SS), f_X8_weight_22 n v1 v2 v4 σ = some (r, σ') → WM (d + 7) X Y b mi_X8_weight 22 [some (vR 25 0), some (vI v1), some (vL v2), none, some (vI v4)] [] σ (some (vL r), σ') := by
  intro n
  induction n with
  | zero => intro _ _ _ σ h; cases h
  | succ n ih =>
    intro v1 v2 v4 σ h
    rw [f_X8_weight_22] at h
    refine r_iload (pc' := 24) d_X8_weight_22 rfl rfl ?_
    refine r_aload_n (pc' := 25) d_X8_weight_24 rfl rfl rfl ?_
    refine r_get (v := vR 85 _) (pc' := 28) fl_X8_119 d_X8_weight_25 rfl rfl (fun g => Or.inl ⟨rfl, g.2⟩) rfl ?_
    refine r_iload_n (pc' := 29) d_X8_weight_28 rfl rfl rfl ?_
    refine r_iaload (pc' := 30) d_X8_weight_29 rfl (fun _ => rfl) rfl h (fun h => ?_)
    refine r_icmp_ge (pcT := 53) (pc' := 33) d_X8_weight_30 rfl rfl h (fun _ h => ?_) (fun _ h => ?_)
    · refine r_lload_n (pc' := 54) d_X8_weight_53 rfl rfl rfl ?_
      exact r_lret d_X8_weight_54 rfl h
    · refine r_lload_n (pc' := 34) d_X8_weight_33 rfl rfl rfl ?_
      refine r_aload_n (pc' := 35) d_X8_weight_34 rfl rfl rfl ?_
      refine r_aload_n (pc' := 36) d_X8_weight_35 rfl rfl rfl ?_
      refine r_iload_n (pc' := 37) d_X8_weight_36 rfl rfl rfl ?_
      refine r_iload (pc' := 39) d_X8_weight_37 rfl rfl ?_
      refine v2_i (mc := mi_X8_walkedAt) (bc := (0, 0)) (b' := _) (pc' := 42) cw_X8_298 d_X8_weight_39 rfl rfl rfl (Nat.zero_add _).symm (Nat.zero_add _).symm rfl h (fun _ _ e => t_X8_walkedAt e) (fun x2 s1 h => ?_)
      refine v1_l (mc := mi_X8_volume) (bc := (0, 0)) (b' := _) (pc' := 45) cw_X8_301 d_X8_weight_42 rfl rfl rfl (Nat.zero_add _).symm (Nat.zero_add _).symm rfl h (fun _ _ e => t_X8_volume e) (fun x4 s3 h => ?_)
      refine r_ladd (pc' := 46) d_X8_weight_45 rfl ?_
      refine l_lstore_n (pc' := 47) d_X8_weight_46 rfl rfl rfl rfl h (fun x5 h => ?_)
      refine l_iinc (pc' := 50) d_X8_weight_47 rfl ci_1 rfl rfl rfl h (fun x6 h => ?_)
      refine r_goto (pc' := 22) d_X8_weight_50 rfl ?_
      exact WM.drop [] rfl (ih _ _ _ _ h)
def f_X8_weight (v1 : Int32) (σ : SS) : Option (Int64 × SS) := cal (f_X8_isAssembly v1 σ) (fun x2 s1 => if x2 = 0 then (some ((-1 : Int64), s1)) else (cal (f_X8_countWalks  s1) (fun x4 s3 => f_X8_weight_22 FU v1 (0 : Int64) (0 : Int32) s3)))
set_option maxRecDepth 20000 in
theorem t_X8_weight {d : Nat} {b : Nat × Nat} {v1 : Int32} {σ : SS} {r : Int64} {σ' : SS} (h : f_X8_weight v1 σ = some (r, σ')) : MM (d + 7) b mi_X8_weight [vR 25 0, vI v1] σ (some (vL r), σ') := by
  refine MM.of (lv := [some (vR 25 0), some (vI v1), none, none, none]) (by decide +kernel) rfl rfl (fun X Y => ?_)
  rw [f_X8_weight] at h
  refine r_aload_n (pc' := 1) d_X8_weight_0 rfl rfl rfl ?_
  refine r_iload_n (pc' := 2) d_X8_weight_1 rfl rfl rfl ?_
  refine v1_i (mc := mi_X8_isAssembly) (bc := (0, 0)) (b' := _) (pc' := 5) cw_X8_289 d_X8_weight_2 rfl rfl rfl (Nat.zero_add _).symm (Nat.zero_add _).symm rfl h (fun _ _ e => t_X8_isAssembly e) (fun x2 s1 h => ?_)
  refine r_if_ne (pcT := 12) (pc' := 8) d_X8_weight_5 rfl rfl h (fun _ h => ?_) (fun _ h => ?_)
  · refine r_ldc2 (pc' := 11) k_X8_226 d_X8_weight_8 rfl ?_
    exact r_lret d_X8_weight_11 rfl h
  · refine r_aload_n (pc' := 13) d_X8_weight_12 rfl rfl rfl ?_
    refine v0_i (mc := mi_X8_countWalks) (bc := (0, 0)) (b' := _) (pc' := 16) cw_X8_295 d_X8_weight_13 rfl rfl rfl (Nat.zero_add _).symm (Nat.zero_add _).symm rfl h (fun _ _ e => t_X8_countWalks e) (fun x4 s3 h => ?_)
    refine r_pop (pc' := 17) d_X8_weight_16 rfl rfl ?_
    refine r_lconst (pc' := 18) (x := 0) d_X8_weight_17 rfl rfl ?_
    refine r_lstore_n (pc' := 19) d_X8_weight_18 rfl rfl rfl rfl ?_
    refine r_iconst (pc' := 20) d_X8_weight_19 ci_0 rfl ?_
    refine r_istore (pc' := 22) d_X8_weight_20 rfl rfl rfl ?_
    exact WM.drop [] rfl (t_X8_weight_22 _ _ _ _ _ h)
/-! OctagonYardModel.price(I)I -/
def mi_X8_price : MI := (yX8_price, cX8_price, 7, (some .int))
theorem d_X8_price_0 : decode mi_X8_price.2.1 0 = .ok (.aload_n 0, 1) := by decide +kernel
theorem d_X8_price_1 : decode mi_X8_price.2.1 1 = .ok (.iload_n 1, 1) := by decide +kernel
theorem d_X8_price_2 : decode mi_X8_price.2.1 2 = .ok (.invokevirtual 289, 3) := by decide +kernel
theorem d_X8_price_5 : decode mi_X8_price.2.1 5 = .ok (.ifCond .ne 5, 3) := by decide +kernel
theorem d_X8_price_8 : decode mi_X8_price.2.1 8 = .ok (.iconst (-1), 1) := by decide +kernel
theorem d_X8_price_9 : decode mi_X8_price.2.1 9 = .ok (.ireturn, 1) := by decide +kernel
theorem d_X8_price_10 : decode mi_X8_price.2.1 10 = .ok (.aload_n 0, 1) := by decide +kernel
theorem d_X8_price_11 : decode mi_X8_price.2.1 11 = .ok (.invokevirtual 295, 3) := by decide +kernel
theorem d_X8_price_14 : decode mi_X8_price.2.1 14 = .ok (.pop, 1) := by decide +kernel
theorem d_X8_price_15 : decode mi_X8_price.2.1 15 = .ok (.iconst 0, 1) := by decide +kernel
theorem d_X8_price_16 : decode mi_X8_price.2.1 16 = .ok (.istore_n 2, 1) := by decide +kernel
theorem d_X8_price_17 : decode mi_X8_price.2.1 17 = .ok (.iconst 0, 1) := by decide +kernel
theorem d_X8_price_18 : decode mi_X8_price.2.1 18 = .ok (.istore_n 3, 1) := by decide +kernel
theorem d_X8_price_19 : decode mi_X8_price.2.1 19 = .ok (.iload_n 3, 1) := by decide +kernel
theorem d_X8_price_20 : decode mi_X8_price.2.1 20 = .ok (.aload_n 0, 1) := by decide +kernel
theorem d_X8_price_21 : decode mi_X8_price.2.1 21 = .ok (.getfield 119, 3) := by decide +kernel
theorem d_X8_price_24 : decode mi_X8_price.2.1 24 = .ok (.iload_n 1, 1) := by decide +kernel
theorem d_X8_price_25 : decode mi_X8_price.2.1 25 = .ok (.iaload, 1) := by decide +kernel
theorem d_X8_price_26 : decode mi_X8_price.2.1 26 = .ok (.if_icmp .ge 94, 3) := by decide +kernel
theorem d_X8_price_29 : decode mi_X8_price.2.1 29 = .ok (.aload_n 0, 1) := by decide +kernel
theorem d_X8_price_30 : decode mi_X8_price.2.1 30 = .ok (.iload_n 1, 1) := by decide +kernel
theorem d_X8_price_31 : decode mi_X8_price.2.1 31 = .ok (.iload_n 3, 1) := by decide +kernel
theorem d_X8_price_32 : decode mi_X8_price.2.1 32 = .ok (.invokevirtual 298, 3) := by decide +kernel
theorem d_X8_price_35 : decode mi_X8_price.2.1 35 = .ok (.istore 4, 2) := by decide +kernel
theorem d_X8_price_37 : decode mi_X8_price.2.1 37 = .ok (.aload_n 0, 1) := by decide +kernel
theorem d_X8_price_38 : decode mi_X8_price.2.1 38 = .ok (.iload 4, 2) := by decide +kernel
theorem d_X8_price_40 : decode mi_X8_price.2.1 40 = .ok (.invokevirtual 282, 3) := by decide +kernel
theorem d_X8_price_43 : decode mi_X8_price.2.1 43 = .ok (.istore 5, 2) := by decide +kernel
theorem d_X8_price_45 : decode mi_X8_price.2.1 45 = .ok (.iload_n 2, 1) := by decide +kernel
theorem d_X8_price_46 : decode mi_X8_price.2.1 46 = .ok (.iconst 3, 1) := by decide +kernel
theorem d_X8_price_47 : decode mi_X8_price.2.1 47 = .ok (.aload_n 0, 1) := by decide +kernel
theorem d_X8_price_48 : decode mi_X8_price.2.1 48 = .ok (.getfield 157, 3) := by decide +kernel
theorem d_X8_price_51 : decode mi_X8_price.2.1 51 = .ok (.imul, 1) := by decide +kernel
theorem d_X8_price_52 : decode mi_X8_price.2.1 52 = .ok (.aload_n 0, 1) := by decide +kernel
theorem d_X8_price_53 : decode mi_X8_price.2.1 53 = .ok (.getfield 35, 3) := by decide +kernel
theorem d_X8_price_56 : decode mi_X8_price.2.1 56 = .ok (.iload 4, 2) := by decide +kernel
theorem d_X8_price_58 : decode mi_X8_price.2.1 58 = .ok (.iaload, 1) := by decide +kernel
theorem d_X8_price_59 : decode mi_X8_price.2.1 59 = .ok (.iadd, 1) := by decide +kernel
theorem d_X8_price_60 : decode mi_X8_price.2.1 60 = .ok (.iload 5, 2) := by decide +kernel
theorem d_X8_price_62 : decode mi_X8_price.2.1 62 = .ok (.iconst 3, 1) := by decide +kernel
theorem d_X8_price_63 : decode mi_X8_price.2.1 63 = .ok (.if_icmp .le 8, 3) := by decide +kernel
theorem d_X8_price_66 : decode mi_X8_price.2.1 66 = .ok (.bipush 10, 2) := by decide +kernel
theorem d_X8_price_68 : decode mi_X8_price.2.1 68 = .ok (.goto 4, 3) := by decide +kernel
theorem d_X8_price_71 : decode mi_X8_price.2.1 71 = .ok (.iconst 0, 1) := by decide +kernel
theorem d_X8_price_72 : decode mi_X8_price.2.1 72 = .ok (.iadd, 1) := by decide +kernel
theorem d_X8_price_73 : decode mi_X8_price.2.1 73 = .ok (.iadd, 1) := by decide +kernel
theorem d_X8_price_74 : decode mi_X8_price.2.1 74 = .ok (.istore_n 2, 1) := by decide +kernel
theorem d_X8_price_75 : decode mi_X8_price.2.1 75 = .ok (.iconst 0, 1) := by decide +kernel
theorem d_X8_price_76 : decode mi_X8_price.2.1 76 = .ok (.istore 6, 2) := by decide +kernel
theorem d_X8_price_78 : decode mi_X8_price.2.1 78 = .ok (.iload 6, 2) := by decide +kernel
theorem d_X8_price_80 : decode mi_X8_price.2.1 80 = .ok (.aload_n 0, 1) := by decide +kernel
theorem d_X8_price_81 : decode mi_X8_price.2.1 81 = .ok (.getfield 157, 3) := by decide +kernel
theorem d_X8_price_84 : decode mi_X8_price.2.1 84 = .ok (.if_icmp .ge 30, 3) := by decide +kernel
theorem d_X8_price_87 : decode mi_X8_price.2.1 87 = .ok (.iload_n 2, 1) := by decide +kernel
theorem d_X8_price_88 : decode mi_X8_price.2.1 88 = .ok (.aload_n 0, 1) := by decide +kernel
theorem d_X8_price_89 : decode mi_X8_price.2.1 89 = .ok (.getfield 56, 3) := by decide +kernel
theorem d_X8_price_92 : decode mi_X8_price.2.1 92 = .ok (.iload 6, 2) := by decide +kernel
theorem d_X8_price_94 : decode mi_X8_price.2.1 94 = .ok (.iaload, 1) := by decide +kernel
theorem d_X8_price_95 : decode mi_X8_price.2.1 95 = .ok (.iconst 4, 1) := by decide +kernel
theorem d_X8_price_96 : decode mi_X8_price.2.1 96 = .ok (.irem, 1) := by decide +kernel
theorem d_X8_price_97 : decode mi_X8_price.2.1 97 = .ok (.iconst 1, 1) := by decide +kernel
theorem d_X8_price_98 : decode mi_X8_price.2.1 98 = .ok (.if_icmp .le 7, 3) := by decide +kernel
theorem d_X8_price_101 : decode mi_X8_price.2.1 101 = .ok (.iconst 2, 1) := by decide +kernel
theorem d_X8_price_102 : decode mi_X8_price.2.1 102 = .ok (.goto 4, 3) := by decide +kernel
theorem d_X8_price_105 : decode mi_X8_price.2.1 105 = .ok (.iconst 0, 1) := by decide +kernel
theorem d_X8_price_106 : decode mi_X8_price.2.1 106 = .ok (.iadd, 1) := by decide +kernel
theorem d_X8_price_107 : decode mi_X8_price.2.1 107 = .ok (.istore_n 2, 1) := by decide +kernel
theorem d_X8_price_108 : decode mi_X8_price.2.1 108 = .ok (.iinc 6 1, 3) := by decide +kernel
theorem d_X8_price_111 : decode mi_X8_price.2.1 111 = .ok (.goto (-33), 3) := by decide +kernel
theorem d_X8_price_114 : decode mi_X8_price.2.1 114 = .ok (.iinc 3 1, 3) := by decide +kernel
theorem d_X8_price_117 : decode mi_X8_price.2.1 117 = .ok (.goto (-98), 3) := by decide +kernel
theorem d_X8_price_120 : decode mi_X8_price.2.1 120 = .ok (.iload_n 2, 1) := by decide +kernel
theorem d_X8_price_121 : decode mi_X8_price.2.1 121 = .ok (.ireturn, 1) := by decide +kernel
def f_X8_price_114 (K19 : Int32 → Int32 → Int32 → SS → Option (Int32 × SS)) (v1 : Int32) (v2 : Int32) (v3 : Int32) (σ : SS) : Option (Int32 × SS) := lt_ (v3 + (1 : Int32)) (fun x1 => K19 v1 v2 x1 σ)
set_option maxRecDepth 20000 in
theorem t_X8_price_114 {d : Nat} {X : MX} {Y : MY} {b : Nat × Nat} {r : Int32} {σ' : SS} {K19 : Int32 → Int32 → Int32 → SS → Option (Int32 × SS)} {v1 : Int32} {v2 : Int32} {v3 : Int32} (hK19 : ∀ (v1 : Int32) (v2 : Int32) (v3 : Int32) (σ : SS), K19 v1 v2 v3 σ = some (r, σ') → WM (d + 6) X Y b mi_X8_price 19 [some (vR 25 0), some (vI v1), some (vI v2), some (vI v3), none, none, none] [] σ (some (vI r), σ')) {σ : SS} (h : f_X8_price_114 K19 v1 v2 v3 σ = some (r, σ')) : WM (d + 6) X Y b mi_X8_price 114 [some (vR 25 0), some (vI v1), some (vI v2), some (vI v3), none, none, none] [] σ (some (vI r), σ') := by
  rw [f_X8_price_114] at h
  refine l_iinc (pc' := 117) d_X8_price_114 rfl ci_1 rfl rfl rfl h (fun x1 h => ?_)
  refine r_goto (pc' := 19) d_X8_price_117 rfl ?_
  exact WM.drop [] rfl (hK19 _ _ _ _ h)
def f_X8_price_106 (K19 : Int32 → Int32 → Int32 → SS → Option (Int32 × SS)) (K78 : Int32 → Int32 → Int32 → Int32 → SS → Option (Int32 × SS)) (v1 : Int32) (v3 : Int32) (v6 : Int32) (u0 : Int32) (u1 : Int32) (σ : SS) : Option (Int32 × SS) := lt_ (u0 + u1) (fun x1 => lt_ (v6 + (1 : Int32)) (fun x2 => K78 v1 x1 v3 x2 σ))
set_option maxRecDepth 20000 in
theorem t_X8_price_106 {d : Nat} {X : MX} {Y : MY} {b : Nat × Nat} {r : Int32} {σ' : SS} {K19 : Int32 → Int32 → Int32 → SS → Option (Int32 × SS)} {K78 : Int32 → Int32 → Int32 → Int32 → SS → Option (Int32 × SS)} {v1 : Int32} {v3 : Int32} {v6 : Int32} {u0 : Int32} {u1 : Int32} (hK19 : ∀ (v1 : Int32) (v2 : Int32) (v3 : Int32) (σ : SS), K19 v1 v2 v3 σ = some (r, σ') → WM (d + 6) X Y b mi_X8_price 19 [some (vR 25 0), some (vI v1), some (vI v2), some (vI v3), none, none, none] [] σ (some (vI r), σ')) (hK78 : ∀ (v1 : Int32) (v2 : Int32) (v3 : Int32) (v6 : Int32) (σ : SS), K78 v1 v2 v3 v6 σ = some (r, σ') → WM (d + 6) X Y b mi_X8_price 78 [some (vR 25 0), some (vI v1), some (vI v2), some (vI v3), none, none, some (vI v6)] [] σ (some (vI r), σ')) {σ : SS} (h : f_X8_price_106 K19 K78 v1 v3 v6 u0 u1 σ = some (r, σ')) : WM (d + 6) X Y b mi_X8_price 106 [some (vR 25 0), some (vI v1), none, some (vI v3), none, none, some (vI v6)] [vI u1, vI u0] σ (some (vI r), σ') := by
  rw [f_X8_price_106] at h
  refine r_iadd (pc' := 107) d_X8_price_106 rfl ?_
  refine l_istore_n (pc' := 108) d_X8_price_107 rfl rfl rfl rfl h (fun x1 h => ?_)
  refine l_iinc (pc' := 111) d_X8_price_108 rfl ci_1 rfl rfl rfl h (fun x2 h => ?_)
  refine r_goto (pc' := 78) d_X8_price_111 rfl ?_
  exact WM.drop [] rfl (hK78 _ _ _ _ _ h)
def f_X8_price_78 (K19 : Int32 → Int32 → Int32 → SS → Option (Int32 × SS)) : Nat → Int32 → Int32 → Int32 → Int32 → SS → Option (Int32 × SS)
  | 0, _, _, _, _, _ => none
  | n + 1, v1, v2, v3, v6, σ => if (σ.1 25 0 17) ≤ v6 then (f_X8_price_114 K19 v1 v2 v3 σ) else (chk (inr v6 8) (if ((σ.1 58 0 (ix v6)) - (σ.1 58 0 (ix v6)) / (4 : Int32) * (4 : Int32)) ≤ (1 : Int32) then (f_X8_price_106 K19 (f_X8_price_78 K19 n) v1 v3 v6 v2 (0 : Int32) σ) else (f_X8_price_106 K19 (f_X8_price_78 K19 n) v1 v3 v6 v2 (2 : Int32) σ)))
set_option maxRecDepth 20000 in
theorem t_X8_price_78 {d : Nat} {X : MX} {Y : MY} {b : Nat × Nat} {r : Int32} {σ' : SS} {K19 : Int32 → Int32 → Int32 → SS → Option (Int32 × SS)} (hK19 : ∀ (v1 : Int32) (v2 : Int32) (v3 : Int32) (σ : SS), K19 v1 v2 v3 σ = some (r, σ') → WM (d + 6) X Y b mi_X8_price 19 [some (vR 25 0), some (vI v1), some (vI v2), some (vI v3), none, none, none] [] σ (some (vI r), σ')) : ∀ (n : Nat) (v1 : Int32) (v2 : Int32) (v3 : Int32) (v6 : Int32) (σ : SS), f_X8_price_78 K19 n v1 v2 v3 v6 σ = some (r, σ') → WM (d + 6) X Y b mi_X8_price 78 [some (vR 25 0), some (vI v1), some (vI v2), some (vI v3), none, none, some (vI v6)] [] σ (some (vI r), σ') := by
  intro n
  induction n with
  | zero => intro _ _ _ _ σ h; cases h
  | succ n ih =>
    intro v1 v2 v3 v6 σ h
    rw [f_X8_price_78] at h
    refine r_iload (pc' := 80) d_X8_price_78 rfl rfl ?_
    refine r_aload_n (pc' := 81) d_X8_price_80 rfl rfl rfl ?_
    refine r_get (v := vI _) (pc' := 84) fl_X8_157 d_X8_price_81 rfl rfl (fun _ => trivial) rfl ?_
    refine r_icmp_ge (pcT := 114) (pc' := 87) d_X8_price_84 rfl rfl h (fun _ h => ?_) (fun _ h => ?_)
    · exact WM.drop [6] rfl (t_X8_price_114 hK19 h)
    · refine r_iload_n (pc' := 88) d_X8_price_87 rfl rfl rfl ?_
      refine r_aload_n (pc' := 89) d_X8_price_88 rfl rfl rfl ?_
      refine r_get (v := vR 58 _) (pc' := 92) fl_X8_56 d_X8_price_89 rfl rfl (fun g => Or.inl ⟨rfl, g.2⟩) rfl ?_
      refine r_iload (pc' := 94) d_X8_price_92 rfl rfl ?_
      refine r_iaload (pc' := 95) d_X8_price_94 rfl (fun _ => rfl) rfl h (fun h => ?_)
      refine r_iconst (pc' := 96) d_X8_price_95 ci_4 rfl ?_
      refine r_irem (pc' := 97) d_X8_price_96 (by decide) rfl ?_
      refine r_iconst (pc' := 98) d_X8_price_97 ci_1 rfl ?_
      refine r_icmp_le (pcT := 105) (pc' := 101) d_X8_price_98 rfl rfl h (fun _ h => ?_) (fun _ h => ?_)
      · refine r_iconst (pc' := 106) d_X8_price_105 ci_0 rfl ?_
        exact WM.drop [2] rfl (t_X8_price_106 hK19 ih h)
      · refine r_iconst (pc' := 102) d_X8_price_101 ci_2 rfl ?_
        refine r_goto (pc' := 106) d_X8_price_102 rfl ?_
        exact WM.drop [2] rfl (t_X8_price_106 hK19 ih h)
def f_X8_price_72 (K19 : Int32 → Int32 → Int32 → SS → Option (Int32 × SS)) (v1 : Int32) (v3 : Int32) (u0 : Int32) (u1 : Int32) (u2 : Int32) (σ : SS) : Option (Int32 × SS) := lt_ (u0 + (u1 + u2)) (fun x1 => f_X8_price_78 K19 FU v1 x1 v3 (0 : Int32) σ)
set_option maxRecDepth 20000 in
theorem t_X8_price_72 {d : Nat} {X : MX} {Y : MY} {b : Nat × Nat} {r : Int32} {σ' : SS} {K19 : Int32 → Int32 → Int32 → SS → Option (Int32 × SS)} {v1 : Int32} {v3 : Int32} {u0 : Int32} {u1 : Int32} {u2 : Int32} (hK19 : ∀ (v1 : Int32) (v2 : Int32) (v3 : Int32) (σ : SS), K19 v1 v2 v3 σ = some (r, σ') → WM (d + 6) X Y b mi_X8_price 19 [some (vR 25 0), some (vI v1), some (vI v2), some (vI v3), none, none, none] [] σ (some (vI r), σ')) {σ : SS} (h : f_X8_price_72 K19 v1 v3 u0 u1 u2 σ = some (r, σ')) : WM (d + 6) X Y b mi_X8_price 72 [some (vR 25 0), some (vI v1), none, some (vI v3), none, none, none] [vI u2, vI u1, vI u0] σ (some (vI r), σ') := by
  rw [f_X8_price_72] at h
  refine r_iadd (pc' := 73) d_X8_price_72 rfl ?_
  refine r_iadd (pc' := 74) d_X8_price_73 rfl ?_
  refine l_istore_n (pc' := 75) d_X8_price_74 rfl rfl rfl rfl h (fun x1 h => ?_)
  refine r_iconst (pc' := 76) d_X8_price_75 ci_0 rfl ?_
  refine r_istore (pc' := 78) d_X8_price_76 rfl rfl rfl ?_
  exact WM.drop [] rfl (t_X8_price_78 hK19 _ _ _ _ _ _ h)
def f_X8_price_19 : Nat → Int32 → Int32 → Int32 → SS → Option (Int32 × SS)
  | 0, _, _, _, _ => none
  | n + 1, v1, v2, v3, σ => chk (inr v1 12) (if (σ.1 85 0 (ix v1)) ≤ v3 then (some (v2, σ)) else (cal (f_X8_walkedAt v1 v3 σ) (fun x2 s1 => cal (f_X8_kindOf x2 s1) (fun x4 s3 => chk (inr x2 60) (if x4 ≤ (3 : Int32) then (f_X8_price_72 (f_X8_price_19 n) v1 v3 v2 (((3 : Int32) * (s3.1 25 0 17)) + (s3.1 49 0 (ix x2))) (0 : Int32) s3) else (f_X8_price_72 (f_X8_price_19 n) v1 v3 v2 (((3 : Int32) * (s3.1 25 0 17)) + (s3.1 49 0 (ix x2))) (10 : Int32) s3))))))
set_option maxRecDepth 20000 in
theorem t_X8_price_19 {d : Nat} {X : MX} {Y : MY} {b : Nat × Nat} {r : Int32} {σ' : SS} : ∀ (n : Nat) (v1 : Int32) (v2 : Int32) (v3 : Int32) (σ : SS), f_X8_price_19 n v1 v2 v3 σ = some (r, σ') → WM (d + 6) X Y b mi_X8_price 19 [some (vR 25 0), some (vI v1), some (vI v2), some (vI v3), none, none, none] [] σ (some (vI r), σ') := by
  intro n
  induction n with
  | zero => intro _ _ _ σ h; cases h
  | succ n ih =>
    intro v1 v2 v3 σ h
    rw [f_X8_price_19] at h
    refine r_iload_n (pc' := 20) d_X8_price_19 rfl rfl rfl ?_
    refine r_aload_n (pc' := 21) d_X8_price_20 rfl rfl rfl ?_
    refine r_get (v := vR 85 _) (pc' := 24) fl_X8_119 d_X8_price_21 rfl rfl (fun g => Or.inl ⟨rfl, g.2⟩) rfl ?_
    refine r_iload_n (pc' := 25) d_X8_price_24 rfl rfl rfl ?_
    refine r_iaload (pc' := 26) d_X8_price_25 rfl (fun _ => rfl) rfl h (fun h => ?_)
    refine r_icmp_ge (pcT := 120) (pc' := 29) d_X8_price_26 rfl rfl h (fun _ h => ?_) (fun _ h => ?_)
    · refine r_iload_n (pc' := 121) d_X8_price_120 rfl rfl rfl ?_
      exact r_iret d_X8_price_121 rfl h
    · refine r_aload_n (pc' := 30) d_X8_price_29 rfl rfl rfl ?_
      refine r_iload_n (pc' := 31) d_X8_price_30 rfl rfl rfl ?_
      refine r_iload_n (pc' := 32) d_X8_price_31 rfl rfl rfl ?_
      refine v2_i (mc := mi_X8_walkedAt) (bc := (0, 0)) (b' := _) (pc' := 35) cw_X8_298 d_X8_price_32 rfl rfl rfl (Nat.zero_add _).symm (Nat.zero_add _).symm rfl h (fun _ _ e => t_X8_walkedAt e) (fun x2 s1 h => ?_)
      refine r_istore (pc' := 37) d_X8_price_35 rfl rfl rfl ?_
      refine r_aload_n (pc' := 38) d_X8_price_37 rfl rfl rfl ?_
      refine r_iload (pc' := 40) d_X8_price_38 rfl rfl ?_
      refine v1_i (mc := mi_X8_kindOf) (bc := (0, 0)) (b' := _) (pc' := 43) cw_X8_282 d_X8_price_40 rfl rfl rfl (Nat.zero_add _).symm (Nat.zero_add _).symm rfl h (fun _ _ e => t_X8_kindOf e) (fun x4 s3 h => ?_)
      refine r_istore (pc' := 45) d_X8_price_43 rfl rfl rfl ?_
      refine r_iload_n (pc' := 46) d_X8_price_45 rfl rfl rfl ?_
      refine r_iconst (pc' := 47) d_X8_price_46 ci_3 rfl ?_
      refine r_aload_n (pc' := 48) d_X8_price_47 rfl rfl rfl ?_
      refine r_get (v := vI _) (pc' := 51) fl_X8_157 d_X8_price_48 rfl rfl (fun _ => trivial) rfl ?_
      refine r_imul (pc' := 52) d_X8_price_51 rfl ?_
      refine r_aload_n (pc' := 53) d_X8_price_52 rfl rfl rfl ?_
      refine r_get (v := vR 49 _) (pc' := 56) fl_X8_35 d_X8_price_53 rfl rfl (fun g => Or.inl ⟨rfl, g.2⟩) rfl ?_
      refine r_iload (pc' := 58) d_X8_price_56 rfl rfl ?_
      refine r_iaload (pc' := 59) d_X8_price_58 rfl (fun _ => rfl) rfl h (fun h => ?_)
      refine r_iadd (pc' := 60) d_X8_price_59 rfl ?_
      refine r_iload (pc' := 62) d_X8_price_60 rfl rfl ?_
      refine r_iconst (pc' := 63) d_X8_price_62 ci_3 rfl ?_
      refine r_icmp_le (pcT := 71) (pc' := 66) d_X8_price_63 rfl rfl h (fun _ h => ?_) (fun _ h => ?_)
      · refine r_iconst (pc' := 72) d_X8_price_71 ci_0 rfl ?_
        exact WM.drop [2, 4, 5] rfl (t_X8_price_72 ih h)
      · refine r_bipush (pc' := 68) d_X8_price_66 cb_10 rfl ?_
        refine r_goto (pc' := 72) d_X8_price_68 rfl ?_
        exact WM.drop [2, 4, 5] rfl (t_X8_price_72 ih h)
def f_X8_price (v1 : Int32) (σ : SS) : Option (Int32 × SS) := cal (f_X8_isAssembly v1 σ) (fun x2 s1 => if x2 = 0 then (some ((-1 : Int32), s1)) else (cal (f_X8_countWalks  s1) (fun x4 s3 => f_X8_price_19 FU v1 (0 : Int32) (0 : Int32) s3)))
set_option maxRecDepth 20000 in
theorem t_X8_price {d : Nat} {b : Nat × Nat} {v1 : Int32} {σ : SS} {r : Int32} {σ' : SS} (h : f_X8_price v1 σ = some (r, σ')) : MM (d + 6) b mi_X8_price [vR 25 0, vI v1] σ (some (vI r), σ') := by
  refine MM.of (lv := [some (vR 25 0), some (vI v1), none, none, none, none, none]) (by decide +kernel) rfl rfl (fun X Y => ?_)
  rw [f_X8_price] at h
  refine r_aload_n (pc' := 1) d_X8_price_0 rfl rfl rfl ?_
  refine r_iload_n (pc' := 2) d_X8_price_1 rfl rfl rfl ?_
  refine v1_i (mc := mi_X8_isAssembly) (bc := (0, 0)) (b' := _) (pc' := 5) cw_X8_289 d_X8_price_2 rfl rfl rfl (Nat.zero_add _).symm (Nat.zero_add _).symm rfl h (fun _ _ e => t_X8_isAssembly e) (fun x2 s1 h => ?_)
  refine r_if_ne (pcT := 10) (pc' := 8) d_X8_price_5 rfl rfl h (fun _ h => ?_) (fun _ h => ?_)
  · refine r_iconst (pc' := 9) d_X8_price_8 ci_m1 rfl ?_
    exact r_iret d_X8_price_9 rfl h
  · refine r_aload_n (pc' := 11) d_X8_price_10 rfl rfl rfl ?_
    refine v0_i (mc := mi_X8_countWalks) (bc := (0, 0)) (b' := _) (pc' := 14) cw_X8_295 d_X8_price_11 rfl rfl rfl (Nat.zero_add _).symm (Nat.zero_add _).symm rfl h (fun _ _ e => t_X8_countWalks e) (fun x4 s3 h => ?_)
    refine r_pop (pc' := 15) d_X8_price_14 rfl rfl ?_
    refine r_iconst (pc' := 16) d_X8_price_15 ci_0 rfl ?_
    refine r_istore_n (pc' := 17) d_X8_price_16 rfl rfl rfl rfl ?_
    refine r_iconst (pc' := 18) d_X8_price_17 ci_0 rfl ?_
    refine r_istore_n (pc' := 19) d_X8_price_18 rfl rfl rfl rfl ?_
    exact WM.drop [] rfl (t_X8_price_19 _ _ _ _ _ h)
/-! OctagonYardModel.restsOn(II)Z -/
def mi_X8_restsOn : MI := (yX8_restsOn, cX8_restsOn, 5, (some .boolean))
theorem d_X8_restsOn_0 : decode mi_X8_restsOn.2.1 0 = .ok (.aload_n 0, 1) := by decide +kernel
theorem d_X8_restsOn_1 : decode mi_X8_restsOn.2.1 1 = .ok (.iload_n 1, 1) := by decide +kernel
theorem d_X8_restsOn_2 : decode mi_X8_restsOn.2.1 2 = .ok (.invokevirtual 201, 3) := by decide +kernel
theorem d_X8_restsOn_5 : decode mi_X8_restsOn.2.1 5 = .ok (.aload_n 0, 1) := by decide +kernel
theorem d_X8_restsOn_6 : decode mi_X8_restsOn.2.1 6 = .ok (.invokevirtual 238, 3) := by decide +kernel
theorem d_X8_restsOn_9 : decode mi_X8_restsOn.2.1 9 = .ok (.aload_n 0, 1) := by decide +kernel
theorem d_X8_restsOn_10 : decode mi_X8_restsOn.2.1 10 = .ok (.iload_n 2, 1) := by decide +kernel
theorem d_X8_restsOn_11 : decode mi_X8_restsOn.2.1 11 = .ok (.invokevirtual 201, 3) := by decide +kernel
theorem d_X8_restsOn_14 : decode mi_X8_restsOn.2.1 14 = .ok (.iconst 0, 1) := by decide +kernel
theorem d_X8_restsOn_15 : decode mi_X8_restsOn.2.1 15 = .ok (.istore_n 3, 1) := by decide +kernel
theorem d_X8_restsOn_16 : decode mi_X8_restsOn.2.1 16 = .ok (.iload_n 3, 1) := by decide +kernel
theorem d_X8_restsOn_17 : decode mi_X8_restsOn.2.1 17 = .ok (.aload_n 0, 1) := by decide +kernel
theorem d_X8_restsOn_18 : decode mi_X8_restsOn.2.1 18 = .ok (.getfield 232, 3) := by decide +kernel
theorem d_X8_restsOn_21 : decode mi_X8_restsOn.2.1 21 = .ok (.if_icmp .ge 60, 3) := by decide +kernel
theorem d_X8_restsOn_24 : decode mi_X8_restsOn.2.1 24 = .ok (.iconst 0, 1) := by decide +kernel
theorem d_X8_restsOn_25 : decode mi_X8_restsOn.2.1 25 = .ok (.istore 4, 2) := by decide +kernel
theorem d_X8_restsOn_27 : decode mi_X8_restsOn.2.1 27 = .ok (.iload 4, 2) := by decide +kernel
theorem d_X8_restsOn_29 : decode mi_X8_restsOn.2.1 29 = .ok (.aload_n 0, 1) := by decide +kernel
theorem d_X8_restsOn_30 : decode mi_X8_restsOn.2.1 30 = .ok (.getfield 157, 3) := by decide +kernel
theorem d_X8_restsOn_33 : decode mi_X8_restsOn.2.1 33 = .ok (.if_icmp .ge 42, 3) := by decide +kernel
theorem d_X8_restsOn_36 : decode mi_X8_restsOn.2.1 36 = .ok (.aload_n 0, 1) := by decide +kernel
theorem d_X8_restsOn_37 : decode mi_X8_restsOn.2.1 37 = .ok (.getfield 80, 3) := by decide +kernel
theorem d_X8_restsOn_40 : decode mi_X8_restsOn.2.1 40 = .ok (.iload_n 3, 1) := by decide +kernel
theorem d_X8_restsOn_41 : decode mi_X8_restsOn.2.1 41 = .ok (.iaload, 1) := by decide +kernel
theorem d_X8_restsOn_42 : decode mi_X8_restsOn.2.1 42 = .ok (.iconst 5, 1) := by decide +kernel
theorem d_X8_restsOn_43 : decode mi_X8_restsOn.2.1 43 = .ok (.if_icmp .ne 26, 3) := by decide +kernel
theorem d_X8_restsOn_46 : decode mi_X8_restsOn.2.1 46 = .ok (.aload_n 0, 1) := by decide +kernel
theorem d_X8_restsOn_47 : decode mi_X8_restsOn.2.1 47 = .ok (.getfield 56, 3) := by decide +kernel
theorem d_X8_restsOn_50 : decode mi_X8_restsOn.2.1 50 = .ok (.iload 4, 2) := by decide +kernel
theorem d_X8_restsOn_52 : decode mi_X8_restsOn.2.1 52 = .ok (.iaload, 1) := by decide +kernel
theorem d_X8_restsOn_53 : decode mi_X8_restsOn.2.1 53 = .ok (.iconst 1, 1) := by decide +kernel
theorem d_X8_restsOn_54 : decode mi_X8_restsOn.2.1 54 = .ok (.if_icmp .ne 15, 3) := by decide +kernel
theorem d_X8_restsOn_57 : decode mi_X8_restsOn.2.1 57 = .ok (.aload_n 0, 1) := by decide +kernel
theorem d_X8_restsOn_58 : decode mi_X8_restsOn.2.1 58 = .ok (.iload_n 3, 1) := by decide +kernel
theorem d_X8_restsOn_59 : decode mi_X8_restsOn.2.1 59 = .ok (.iload 4, 2) := by decide +kernel
theorem d_X8_restsOn_61 : decode mi_X8_restsOn.2.1 61 = .ok (.invokevirtual 244, 3) := by decide +kernel
theorem d_X8_restsOn_64 : decode mi_X8_restsOn.2.1 64 = .ok (.ifCond .le 5, 3) := by decide +kernel
theorem d_X8_restsOn_67 : decode mi_X8_restsOn.2.1 67 = .ok (.iconst 1, 1) := by decide +kernel
theorem d_X8_restsOn_68 : decode mi_X8_restsOn.2.1 68 = .ok (.ireturn, 1) := by decide +kernel
theorem d_X8_restsOn_69 : decode mi_X8_restsOn.2.1 69 = .ok (.iinc 4 1, 3) := by decide +kernel
theorem d_X8_restsOn_72 : decode mi_X8_restsOn.2.1 72 = .ok (.goto (-45), 3) := by decide +kernel
theorem d_X8_restsOn_75 : decode mi_X8_restsOn.2.1 75 = .ok (.iinc 3 1, 3) := by decide +kernel
theorem d_X8_restsOn_78 : decode mi_X8_restsOn.2.1 78 = .ok (.goto (-62), 3) := by decide +kernel
theorem d_X8_restsOn_81 : decode mi_X8_restsOn.2.1 81 = .ok (.iconst 0, 1) := by decide +kernel
theorem d_X8_restsOn_82 : decode mi_X8_restsOn.2.1 82 = .ok (.ireturn, 1) := by decide +kernel
def f_X8_restsOn_75 (K16 : Int32 → SS → Option (Int32 × SS)) (v3 : Int32) (σ : SS) : Option (Int32 × SS) := lt_ (v3 + (1 : Int32)) (fun x1 => K16 x1 σ)
set_option maxRecDepth 20000 in
theorem t_X8_restsOn_75 {d : Nat} {X : MX} {Y : MY} {b : Nat × Nat} {r : Int32} {σ' : SS} {K16 : Int32 → SS → Option (Int32 × SS)} {v3 : Int32} (hK16 : ∀ (v3 : Int32) (σ : SS), K16 v3 σ = some (r, σ') → WM (d + 5) X Y b mi_X8_restsOn 16 [some (vR 25 0), none, none, some (vI v3), none] [] σ (some (vI r), σ')) {σ : SS} (h : f_X8_restsOn_75 K16 v3 σ = some (r, σ')) : WM (d + 5) X Y b mi_X8_restsOn 75 [some (vR 25 0), none, none, some (vI v3), none] [] σ (some (vI r), σ') := by
  rw [f_X8_restsOn_75] at h
  refine l_iinc (pc' := 78) d_X8_restsOn_75 rfl ci_1 rfl rfl rfl h (fun x1 h => ?_)
  refine r_goto (pc' := 16) d_X8_restsOn_78 rfl ?_
  exact WM.drop [] rfl (hK16 _ _ h)
def f_X8_restsOn_69 (K16 : Int32 → SS → Option (Int32 × SS)) (K27 : Int32 → Int32 → SS → Option (Int32 × SS)) (v3 : Int32) (v4 : Int32) (σ : SS) : Option (Int32 × SS) := lt_ (v4 + (1 : Int32)) (fun x1 => K27 v3 x1 σ)
set_option maxRecDepth 20000 in
theorem t_X8_restsOn_69 {d : Nat} {X : MX} {Y : MY} {b : Nat × Nat} {r : Int32} {σ' : SS} {K16 : Int32 → SS → Option (Int32 × SS)} {K27 : Int32 → Int32 → SS → Option (Int32 × SS)} {v3 : Int32} {v4 : Int32} (hK16 : ∀ (v3 : Int32) (σ : SS), K16 v3 σ = some (r, σ') → WM (d + 5) X Y b mi_X8_restsOn 16 [some (vR 25 0), none, none, some (vI v3), none] [] σ (some (vI r), σ')) (hK27 : ∀ (v3 : Int32) (v4 : Int32) (σ : SS), K27 v3 v4 σ = some (r, σ') → WM (d + 5) X Y b mi_X8_restsOn 27 [some (vR 25 0), none, none, some (vI v3), some (vI v4)] [] σ (some (vI r), σ')) {σ : SS} (h : f_X8_restsOn_69 K16 K27 v3 v4 σ = some (r, σ')) : WM (d + 5) X Y b mi_X8_restsOn 69 [some (vR 25 0), none, none, some (vI v3), some (vI v4)] [] σ (some (vI r), σ') := by
  rw [f_X8_restsOn_69] at h
  refine l_iinc (pc' := 72) d_X8_restsOn_69 rfl ci_1 rfl rfl rfl h (fun x1 h => ?_)
  refine r_goto (pc' := 27) d_X8_restsOn_72 rfl ?_
  exact WM.drop [] rfl (hK27 _ _ _ h)
def f_X8_restsOn_27 (K16 : Int32 → SS → Option (Int32 × SS)) : Nat → Int32 → Int32 → SS → Option (Int32 × SS)
  | 0, _, _, _ => none
  | n + 1, v3, v4, σ => if (σ.1 25 0 17) ≤ v4 then (f_X8_restsOn_75 K16 v3 σ) else (chk (inr v3 8) (if (σ.1 70 0 (ix v3)) = (5 : Int32) then (chk (inr v4 8) (if (σ.1 58 0 (ix v4)) = (1 : Int32) then (cal (f_X8_shared v3 v4 σ) (fun x2 s1 => if x2 ≤ 0 then (f_X8_restsOn_69 K16 (f_X8_restsOn_27 K16 n) v3 v4 s1) else (some ((1 : Int32), s1)))) else (f_X8_restsOn_69 K16 (f_X8_restsOn_27 K16 n) v3 v4 σ))) else (f_X8_restsOn_69 K16 (f_X8_restsOn_27 K16 n) v3 v4 σ)))
set_option maxRecDepth 20000 in
theorem t_X8_restsOn_27 {d : Nat} {X : MX} {Y : MY} {b : Nat × Nat} {r : Int32} {σ' : SS} {K16 : Int32 → SS → Option (Int32 × SS)} (hK16 : ∀ (v3 : Int32) (σ : SS), K16 v3 σ = some (r, σ') → WM (d + 5) X Y b mi_X8_restsOn 16 [some (vR 25 0), none, none, some (vI v3), none] [] σ (some (vI r), σ')) : ∀ (n : Nat) (v3 : Int32) (v4 : Int32) (σ : SS), f_X8_restsOn_27 K16 n v3 v4 σ = some (r, σ') → WM (d + 5) X Y b mi_X8_restsOn 27 [some (vR 25 0), none, none, some (vI v3), some (vI v4)] [] σ (some (vI r), σ') := by
  intro n
  induction n with
  | zero => intro _ _ σ h; cases h
  | succ n ih =>
    intro v3 v4 σ h
    rw [f_X8_restsOn_27] at h
    refine r_iload (pc' := 29) d_X8_restsOn_27 rfl rfl ?_
    refine r_aload_n (pc' := 30) d_X8_restsOn_29 rfl rfl rfl ?_
    refine r_get (v := vI _) (pc' := 33) fl_X8_157 d_X8_restsOn_30 rfl rfl (fun _ => trivial) rfl ?_
    refine r_icmp_ge (pcT := 75) (pc' := 36) d_X8_restsOn_33 rfl rfl h (fun _ h => ?_) (fun _ h => ?_)
    · exact WM.drop [4] rfl (t_X8_restsOn_75 hK16 h)
    · refine r_aload_n (pc' := 37) d_X8_restsOn_36 rfl rfl rfl ?_
      refine r_get (v := vR 70 _) (pc' := 40) fl_X8_80 d_X8_restsOn_37 rfl rfl (fun g => Or.inl ⟨rfl, g.2⟩) rfl ?_
      refine r_iload_n (pc' := 41) d_X8_restsOn_40 rfl rfl rfl ?_
      refine r_iaload (pc' := 42) d_X8_restsOn_41 rfl (fun _ => rfl) rfl h (fun h => ?_)
      refine r_iconst (pc' := 43) d_X8_restsOn_42 ci_5 rfl ?_
      refine r_icmp_ne (pcT := 69) (pc' := 46) d_X8_restsOn_43 rfl rfl h (fun _ h => ?_) (fun _ h => ?_)
      · refine r_aload_n (pc' := 47) d_X8_restsOn_46 rfl rfl rfl ?_
        refine r_get (v := vR 58 _) (pc' := 50) fl_X8_56 d_X8_restsOn_47 rfl rfl (fun g => Or.inl ⟨rfl, g.2⟩) rfl ?_
        refine r_iload (pc' := 52) d_X8_restsOn_50 rfl rfl ?_
        refine r_iaload (pc' := 53) d_X8_restsOn_52 rfl (fun _ => rfl) rfl h (fun h => ?_)
        refine r_iconst (pc' := 54) d_X8_restsOn_53 ci_1 rfl ?_
        refine r_icmp_ne (pcT := 69) (pc' := 57) d_X8_restsOn_54 rfl rfl h (fun _ h => ?_) (fun _ h => ?_)
        · refine r_aload_n (pc' := 58) d_X8_restsOn_57 rfl rfl rfl ?_
          refine r_iload_n (pc' := 59) d_X8_restsOn_58 rfl rfl rfl ?_
          refine r_iload (pc' := 61) d_X8_restsOn_59 rfl rfl ?_
          refine v2_i (mc := mi_X8_shared) (bc := (0, 0)) (b' := _) (pc' := 64) cw_X8_244 d_X8_restsOn_61 rfl rfl rfl (Nat.zero_add _).symm (Nat.zero_add _).symm rfl h (fun _ _ e => t_X8_shared e) (fun x2 s1 h => ?_)
          refine r_if_le (pcT := 69) (pc' := 67) d_X8_restsOn_64 rfl rfl h (fun _ h => ?_) (fun _ h => ?_)
          · exact WM.drop [] rfl (t_X8_restsOn_69 hK16 ih h)
          · refine r_iconst (pc' := 68) d_X8_restsOn_67 ci_1 rfl ?_
            exact r_zret d_X8_restsOn_68 rfl (Or.inr rfl) h
        · exact WM.drop [] rfl (t_X8_restsOn_69 hK16 ih h)
      · exact WM.drop [] rfl (t_X8_restsOn_69 hK16 ih h)
def f_X8_restsOn_16 : Nat → Int32 → SS → Option (Int32 × SS)
  | 0, _, _ => none
  | n + 1, v3, σ => if (σ.1 25 0 29) ≤ v3 then (some ((0 : Int32), σ)) else (f_X8_restsOn_27 (f_X8_restsOn_16 n) FU v3 (0 : Int32) σ)
set_option maxRecDepth 20000 in
theorem t_X8_restsOn_16 {d : Nat} {X : MX} {Y : MY} {b : Nat × Nat} {r : Int32} {σ' : SS} : ∀ (n : Nat) (v3 : Int32) (σ : SS), f_X8_restsOn_16 n v3 σ = some (r, σ') → WM (d + 5) X Y b mi_X8_restsOn 16 [some (vR 25 0), none, none, some (vI v3), none] [] σ (some (vI r), σ') := by
  intro n
  induction n with
  | zero => intro _ σ h; cases h
  | succ n ih =>
    intro v3 σ h
    rw [f_X8_restsOn_16] at h
    refine r_iload_n (pc' := 17) d_X8_restsOn_16 rfl rfl rfl ?_
    refine r_aload_n (pc' := 18) d_X8_restsOn_17 rfl rfl rfl ?_
    refine r_get (v := vI _) (pc' := 21) fl_X8_232 d_X8_restsOn_18 rfl rfl (fun _ => trivial) rfl ?_
    refine r_icmp_ge (pcT := 81) (pc' := 24) d_X8_restsOn_21 rfl rfl h (fun _ h => ?_) (fun _ h => ?_)
    · refine r_iconst (pc' := 82) d_X8_restsOn_81 ci_0 rfl ?_
      exact r_zret d_X8_restsOn_82 rfl (Or.inl rfl) h
    · refine r_iconst (pc' := 25) d_X8_restsOn_24 ci_0 rfl ?_
      refine r_istore (pc' := 27) d_X8_restsOn_25 rfl rfl rfl ?_
      exact WM.drop [] rfl (t_X8_restsOn_27 ih _ _ _ _ h)
def f_X8_restsOn (v1 : Int32) (v2 : Int32) (σ : SS) : Option (Int32 × SS) := cal (f_X8_takes v1 σ) (fun _ s1 => cal (f_X8_keepsSides  s1) (fun _ s2 => cal (f_X8_takes v2 s2) (fun _ s3 => f_X8_restsOn_16 FU (0 : Int32) s3)))
set_option maxRecDepth 20000 in
theorem t_X8_restsOn {d : Nat} {b : Nat × Nat} {v1 : Int32} {v2 : Int32} {σ : SS} {r : Int32} {σ' : SS} (h : f_X8_restsOn v1 v2 σ = some (r, σ')) : MM (d + 5) b mi_X8_restsOn [vR 25 0, vI v1, vI v2] σ (some (vI r), σ') := by
  refine MM.of (lv := [some (vR 25 0), some (vI v1), some (vI v2), none, none]) (by decide +kernel) rfl rfl (fun X Y => ?_)
  rw [f_X8_restsOn] at h
  refine r_aload_n (pc' := 1) d_X8_restsOn_0 rfl rfl rfl ?_
  refine r_iload_n (pc' := 2) d_X8_restsOn_1 rfl rfl rfl ?_
  refine v1_v (mc := mi_X8_takes) (bc := (0, 0)) (b' := _) (pc' := 5) cw_X8_201 d_X8_restsOn_2 rfl rfl rfl (Nat.zero_add _).symm (Nat.zero_add _).symm rfl h (fun _ _ e => t_X8_takes e) (fun _ s1 h => ?_)
  refine r_aload_n (pc' := 6) d_X8_restsOn_5 rfl rfl rfl ?_
  refine v0_v (mc := mi_X8_keepsSides) (bc := (0, 0)) (b' := _) (pc' := 9) cw_X8_238 d_X8_restsOn_6 rfl rfl rfl (Nat.zero_add _).symm (Nat.zero_add _).symm rfl h (fun _ _ e => t_X8_keepsSides e) (fun _ s2 h => ?_)
  refine r_aload_n (pc' := 10) d_X8_restsOn_9 rfl rfl rfl ?_
  refine r_iload_n (pc' := 11) d_X8_restsOn_10 rfl rfl rfl ?_
  refine v1_v (mc := mi_X8_takes) (bc := (0, 0)) (b' := _) (pc' := 14) cw_X8_201 d_X8_restsOn_11 rfl rfl rfl (Nat.zero_add _).symm (Nat.zero_add _).symm rfl h (fun _ _ e => t_X8_takes e) (fun _ s3 h => ?_)
  refine r_iconst (pc' := 15) d_X8_restsOn_14 ci_0 rfl ?_
  refine r_istore_n (pc' := 16) d_X8_restsOn_15 rfl rfl rfl rfl ?_
  exact WM.drop [1, 2] rfl (t_X8_restsOn_16 _ _ _ h)
/-! OctagonYardModel.rests(I)Z -/
def mi_X8_rests : MI := (yX8_rests, cX8_rests, 4, (some .boolean))
theorem d_X8_rests_0 : decode mi_X8_rests.2.1 0 = .ok (.aload_n 0, 1) := by decide +kernel
theorem d_X8_rests_1 : decode mi_X8_rests.2.1 1 = .ok (.iload_n 1, 1) := by decide +kernel
theorem d_X8_rests_2 : decode mi_X8_rests.2.1 2 = .ok (.invokevirtual 201, 3) := by decide +kernel
theorem d_X8_rests_5 : decode mi_X8_rests.2.1 5 = .ok (.aload_n 0, 1) := by decide +kernel
theorem d_X8_rests_6 : decode mi_X8_rests.2.1 6 = .ok (.iconst 5, 1) := by decide +kernel
theorem d_X8_rests_7 : decode mi_X8_rests.2.1 7 = .ok (.invokevirtual 167, 3) := by decide +kernel
theorem d_X8_rests_10 : decode mi_X8_rests.2.1 10 = .ok (.ineg, 1) := by decide +kernel
theorem d_X8_rests_11 : decode mi_X8_rests.2.1 11 = .ok (.ifCond .gt 7, 3) := by decide +kernel
theorem d_X8_rests_14 : decode mi_X8_rests.2.1 14 = .ok (.iconst 1, 1) := by decide +kernel
theorem d_X8_rests_15 : decode mi_X8_rests.2.1 15 = .ok (.goto 4, 3) := by decide +kernel
theorem d_X8_rests_18 : decode mi_X8_rests.2.1 18 = .ok (.iconst 0, 1) := by decide +kernel
theorem d_X8_rests_19 : decode mi_X8_rests.2.1 19 = .ok (.istore_n 2, 1) := by decide +kernel
theorem d_X8_rests_20 : decode mi_X8_rests.2.1 20 = .ok (.iconst 0, 1) := by decide +kernel
theorem d_X8_rests_21 : decode mi_X8_rests.2.1 21 = .ok (.istore_n 3, 1) := by decide +kernel
theorem d_X8_rests_22 : decode mi_X8_rests.2.1 22 = .ok (.iload_n 3, 1) := by decide +kernel
theorem d_X8_rests_23 : decode mi_X8_rests.2.1 23 = .ok (.aload_n 0, 1) := by decide +kernel
theorem d_X8_rests_24 : decode mi_X8_rests.2.1 24 = .ok (.getfield 135, 3) := by decide +kernel
theorem d_X8_rests_27 : decode mi_X8_rests.2.1 27 = .ok (.if_icmp .ge 42, 3) := by decide +kernel
theorem d_X8_rests_30 : decode mi_X8_rests.2.1 30 = .ok (.iload_n 2, 1) := by decide +kernel
theorem d_X8_rests_31 : decode mi_X8_rests.2.1 31 = .ok (.ifCond .ne 38, 3) := by decide +kernel
theorem d_X8_rests_34 : decode mi_X8_rests.2.1 34 = .ok (.aload_n 0, 1) := by decide +kernel
theorem d_X8_rests_35 : decode mi_X8_rests.2.1 35 = .ok (.getfield 125, 3) := by decide +kernel
theorem d_X8_rests_38 : decode mi_X8_rests.2.1 38 = .ok (.iload_n 3, 1) := by decide +kernel
theorem d_X8_rests_39 : decode mi_X8_rests.2.1 39 = .ok (.baload, 1) := by decide +kernel
theorem d_X8_rests_40 : decode mi_X8_rests.2.1 40 = .ok (.ifCond .eq 21, 3) := by decide +kernel
theorem d_X8_rests_43 : decode mi_X8_rests.2.1 43 = .ok (.iload_n 3, 1) := by decide +kernel
theorem d_X8_rests_44 : decode mi_X8_rests.2.1 44 = .ok (.iload_n 1, 1) := by decide +kernel
theorem d_X8_rests_45 : decode mi_X8_rests.2.1 45 = .ok (.if_icmp .eq 16, 3) := by decide +kernel
theorem d_X8_rests_48 : decode mi_X8_rests.2.1 48 = .ok (.aload_n 0, 1) := by decide +kernel
theorem d_X8_rests_49 : decode mi_X8_rests.2.1 49 = .ok (.iload_n 1, 1) := by decide +kernel
theorem d_X8_rests_50 : decode mi_X8_rests.2.1 50 = .ok (.iload_n 3, 1) := by decide +kernel
theorem d_X8_rests_51 : decode mi_X8_rests.2.1 51 = .ok (.invokevirtual 305, 3) := by decide +kernel
theorem d_X8_rests_54 : decode mi_X8_rests.2.1 54 = .ok (.ifCond .eq 7, 3) := by decide +kernel
theorem d_X8_rests_57 : decode mi_X8_rests.2.1 57 = .ok (.iconst 1, 1) := by decide +kernel
theorem d_X8_rests_58 : decode mi_X8_rests.2.1 58 = .ok (.goto 4, 3) := by decide +kernel
theorem d_X8_rests_61 : decode mi_X8_rests.2.1 61 = .ok (.iconst 0, 1) := by decide +kernel
theorem d_X8_rests_62 : decode mi_X8_rests.2.1 62 = .ok (.istore_n 2, 1) := by decide +kernel
theorem d_X8_rests_63 : decode mi_X8_rests.2.1 63 = .ok (.iinc 3 1, 3) := by decide +kernel
theorem d_X8_rests_66 : decode mi_X8_rests.2.1 66 = .ok (.goto (-44), 3) := by decide +kernel
theorem d_X8_rests_69 : decode mi_X8_rests.2.1 69 = .ok (.iload_n 2, 1) := by decide +kernel
theorem d_X8_rests_70 : decode mi_X8_rests.2.1 70 = .ok (.ireturn, 1) := by decide +kernel
theorem fl_X8_125 : FL RX8 125 8 49 47 := ⟨RX8, TX8, rfl, by decide, rfl, by decide +kernel, in_8⟩
theorem cw_X8_305 : CV RX8 305 mi_X8_restsOn 2 := by unfold CV; decide +kernel
def f_X8_rests_62 (K22 : Int32 → Int32 → Int32 → SS → Option (Int32 × SS)) (v1 : Int32) (v3 : Int32) (u0 : Int32) (σ : SS) : Option (Int32 × SS) := lt_ (v3 + (1 : Int32)) (fun x1 => K22 v1 u0 x1 σ)
set_option maxRecDepth 20000 in
theorem t_X8_rests_62 {d : Nat} {X : MX} {Y : MY} {b : Nat × Nat} {r : Int32} {σ' : SS} {K22 : Int32 → Int32 → Int32 → SS → Option (Int32 × SS)} {v1 : Int32} {v3 : Int32} {u0 : Int32} (hK22 : ∀ (v1 : Int32) (v2 : Int32) (v3 : Int32) (σ : SS), K22 v1 v2 v3 σ = some (r, σ') → WM (d + 6) X Y b mi_X8_rests 22 [some (vR 25 0), some (vI v1), some (vI v2), some (vI v3)] [] σ (some (vI r), σ')) {σ : SS} (h : f_X8_rests_62 K22 v1 v3 u0 σ = some (r, σ')) : WM (d + 6) X Y b mi_X8_rests 62 [some (vR 25 0), some (vI v1), none, some (vI v3)] [vI u0] σ (some (vI r), σ') := by
  rw [f_X8_rests_62] at h
  refine r_istore_n (pc' := 63) d_X8_rests_62 rfl rfl rfl rfl ?_
  refine l_iinc (pc' := 66) d_X8_rests_63 rfl ci_1 rfl rfl rfl h (fun x1 h => ?_)
  refine r_goto (pc' := 22) d_X8_rests_66 rfl ?_
  exact WM.drop [] rfl (hK22 _ _ _ _ h)
def f_X8_rests_61 (K22 : Int32 → Int32 → Int32 → SS → Option (Int32 × SS)) (v1 : Int32) (v3 : Int32) (σ : SS) : Option (Int32 × SS) := f_X8_rests_62 K22 v1 v3 (0 : Int32) σ
set_option maxRecDepth 20000 in
theorem t_X8_rests_61 {d : Nat} {X : MX} {Y : MY} {b : Nat × Nat} {r : Int32} {σ' : SS} {K22 : Int32 → Int32 → Int32 → SS → Option (Int32 × SS)} {v1 : Int32} {v3 : Int32} (hK22 : ∀ (v1 : Int32) (v2 : Int32) (v3 : Int32) (σ : SS), K22 v1 v2 v3 σ = some (r, σ') → WM (d + 6) X Y b mi_X8_rests 22 [some (vR 25 0), some (vI v1), some (vI v2), some (vI v3)] [] σ (some (vI r), σ')) {σ : SS} (h : f_X8_rests_61 K22 v1 v3 σ = some (r, σ')) : WM (d + 6) X Y b mi_X8_rests 61 [some (vR 25 0), some (vI v1), none, some (vI v3)] [] σ (some (vI r), σ') := by
  rw [f_X8_rests_61] at h
  refine r_iconst (pc' := 62) d_X8_rests_61 ci_0 rfl ?_
  exact WM.drop [] rfl (t_X8_rests_62 hK22 h)
def f_X8_rests_22 : Nat → Int32 → Int32 → Int32 → SS → Option (Int32 × SS)
  | 0, _, _, _, _ => none
  | n + 1, v1, v2, v3, σ => if (σ.1 25 0 6) ≤ v3 then (chk (v2 = 0 ∨ v2 = 1) (some (v2, σ))) else (if v2 = 0 then (chk (inr v3 60) (if (σ.1 87 0 (ix v3)) = 0 then (f_X8_rests_61 (f_X8_rests_22 n) v1 v3 σ) else (if v3 = v1 then (f_X8_rests_61 (f_X8_rests_22 n) v1 v3 σ) else (cal (f_X8_restsOn v1 v3 σ) (fun x4 s3 => if x4 = 0 then (f_X8_rests_61 (f_X8_rests_22 n) v1 v3 s3) else (f_X8_rests_62 (f_X8_rests_22 n) v1 v3 (1 : Int32) s3)))))) else (chk (v2 = 0 ∨ v2 = 1) (some (v2, σ))))
set_option maxRecDepth 20000 in
theorem t_X8_rests_22 {d : Nat} {X : MX} {Y : MY} {b : Nat × Nat} {r : Int32} {σ' : SS} : ∀ (n : Nat) (v1 : Int32) (v2 : Int32) (v3 : Int32) (σ : SS), f_X8_rests_22 n v1 v2 v3 σ = some (r, σ') → WM (d + 6) X Y b mi_X8_rests 22 [some (vR 25 0), some (vI v1), some (vI v2), some (vI v3)] [] σ (some (vI r), σ') := by
  intro n
  induction n with
  | zero => intro _ _ _ σ h; cases h
  | succ n ih =>
    intro v1 v2 v3 σ h
    rw [f_X8_rests_22] at h
    refine r_iload_n (pc' := 23) d_X8_rests_22 rfl rfl rfl ?_
    refine r_aload_n (pc' := 24) d_X8_rests_23 rfl rfl rfl ?_
    refine r_get (v := vI _) (pc' := 27) fl_X8_135 d_X8_rests_24 rfl rfl (fun _ => trivial) rfl ?_
    refine r_icmp_ge (pcT := 69) (pc' := 30) d_X8_rests_27 rfl rfl h (fun _ h => ?_) (fun _ h => ?_)
    · refine r_iload_n (pc' := 70) d_X8_rests_69 rfl rfl rfl ?_
      obtain ⟨z1, h⟩ := chk_t h
      exact r_zret d_X8_rests_70 rfl z1 h
    · refine r_iload_n (pc' := 31) d_X8_rests_30 rfl rfl rfl ?_
      refine r_if_ne (pcT := 69) (pc' := 34) d_X8_rests_31 rfl rfl h (fun _ h => ?_) (fun _ h => ?_)
      · refine r_aload_n (pc' := 35) d_X8_rests_34 rfl rfl rfl ?_
        refine r_get (v := vR 87 _) (pc' := 38) fl_X8_125 d_X8_rests_35 rfl rfl (fun g => Or.inl ⟨rfl, g.2⟩) rfl ?_
        refine r_iload_n (pc' := 39) d_X8_rests_38 rfl rfl rfl ?_
        refine r_baload (pc' := 40) d_X8_rests_39 rfl (fun _ => rfl) rfl h (fun h => ?_)
        refine r_if_eq (pcT := 61) (pc' := 43) d_X8_rests_40 rfl rfl h (fun _ h => ?_) (fun _ h => ?_)
        · exact WM.drop [2] rfl (t_X8_rests_61 ih h)
        · refine r_iload_n (pc' := 44) d_X8_rests_43 rfl rfl rfl ?_
          refine r_iload_n (pc' := 45) d_X8_rests_44 rfl rfl rfl ?_
          refine r_icmp_eq (pcT := 61) (pc' := 48) d_X8_rests_45 rfl rfl h (fun _ h => ?_) (fun _ h => ?_)
          · exact WM.drop [2] rfl (t_X8_rests_61 ih h)
          · refine r_aload_n (pc' := 49) d_X8_rests_48 rfl rfl rfl ?_
            refine r_iload_n (pc' := 50) d_X8_rests_49 rfl rfl rfl ?_
            refine r_iload_n (pc' := 51) d_X8_rests_50 rfl rfl rfl ?_
            refine v2_i (mc := mi_X8_restsOn) (bc := (0, 0)) (b' := _) (pc' := 54) cw_X8_305 d_X8_rests_51 rfl rfl rfl (Nat.zero_add _).symm (Nat.zero_add _).symm rfl h (fun _ _ e => t_X8_restsOn e) (fun x4 s3 h => ?_)
            refine r_if_eq (pcT := 61) (pc' := 57) d_X8_rests_54 rfl rfl h (fun _ h => ?_) (fun _ h => ?_)
            · exact WM.drop [2] rfl (t_X8_rests_61 ih h)
            · refine r_iconst (pc' := 58) d_X8_rests_57 ci_1 rfl ?_
              refine r_goto (pc' := 62) d_X8_rests_58 rfl ?_
              exact WM.drop [2] rfl (t_X8_rests_62 ih h)
      · refine r_iload_n (pc' := 70) d_X8_rests_69 rfl rfl rfl ?_
        obtain ⟨z2, h⟩ := chk_t h
        exact r_zret d_X8_rests_70 rfl z2 h
def f_X8_rests_19 (v1 : Int32) (u0 : Int32) (σ : SS) : Option (Int32 × SS) := f_X8_rests_22 FU v1 u0 (0 : Int32) σ
set_option maxRecDepth 20000 in
theorem t_X8_rests_19 {d : Nat} {X : MX} {Y : MY} {b : Nat × Nat} {r : Int32} {σ' : SS} {v1 : Int32} {u0 : Int32} {σ : SS} (h : f_X8_rests_19 v1 u0 σ = some (r, σ')) : WM (d + 6) X Y b mi_X8_rests 19 [some (vR 25 0), some (vI v1), none, none] [vI u0] σ (some (vI r), σ') := by
  rw [f_X8_rests_19] at h
  refine r_istore_n (pc' := 20) d_X8_rests_19 rfl rfl rfl rfl ?_
  refine r_iconst (pc' := 21) d_X8_rests_20 ci_0 rfl ?_
  refine r_istore_n (pc' := 22) d_X8_rests_21 rfl rfl rfl rfl ?_
  exact WM.drop [] rfl (t_X8_rests_22 _ _ _ _ _ h)
def f_X8_rests (v1 : Int32) (σ : SS) : Option (Int32 × SS) := cal (f_X8_takes v1 σ) (fun _ s1 => cal (f_X8_most (5 : Int32) s1) (fun x3 s2 => if 0 < (-x3) then (f_X8_rests_19 v1 (0 : Int32) s2) else (f_X8_rests_19 v1 (1 : Int32) s2)))
set_option maxRecDepth 20000 in
theorem t_X8_rests {d : Nat} {b : Nat × Nat} {v1 : Int32} {σ : SS} {r : Int32} {σ' : SS} (h : f_X8_rests v1 σ = some (r, σ')) : MM (d + 6) b mi_X8_rests [vR 25 0, vI v1] σ (some (vI r), σ') := by
  refine MM.of (lv := [some (vR 25 0), some (vI v1), none, none]) (by decide +kernel) rfl rfl (fun X Y => ?_)
  rw [f_X8_rests] at h
  refine r_aload_n (pc' := 1) d_X8_rests_0 rfl rfl rfl ?_
  refine r_iload_n (pc' := 2) d_X8_rests_1 rfl rfl rfl ?_
  refine v1_v (mc := mi_X8_takes) (bc := (0, 0)) (b' := _) (pc' := 5) cw_X8_201 d_X8_rests_2 rfl rfl rfl (Nat.zero_add _).symm (Nat.zero_add _).symm rfl h (fun _ _ e => t_X8_takes e) (fun _ s1 h => ?_)
  refine r_aload_n (pc' := 6) d_X8_rests_5 rfl rfl rfl ?_
  refine r_iconst (pc' := 7) d_X8_rests_6 ci_5 rfl ?_
  refine v1_i (mc := mi_X8_most) (bc := (0, 0)) (b' := _) (pc' := 10) cw_X8_167 d_X8_rests_7 rfl rfl rfl (Nat.zero_add _).symm (Nat.zero_add _).symm rfl h (fun _ _ e => t_X8_most e) (fun x3 s2 h => ?_)
  refine r_ineg (pc' := 11) d_X8_rests_10 rfl ?_
  refine r_if_gt (pcT := 18) (pc' := 14) d_X8_rests_11 rfl rfl h (fun _ h => ?_) (fun _ h => ?_)
  · refine r_iconst (pc' := 19) d_X8_rests_18 ci_0 rfl ?_
    exact WM.drop [] rfl (t_X8_rests_19 h)
  · refine r_iconst (pc' := 15) d_X8_rests_14 ci_1 rfl ?_
    refine r_goto (pc' := 19) d_X8_rests_15 rfl ?_
    exact WM.drop [] rfl (t_X8_rests_19 h)
/-! OctagonYardModel.check(I)I -/
def mi_X8_check : MI := (yX8_check, cX8_check, 4, (some .int))
theorem d_X8_check_0 : decode mi_X8_check.2.1 0 = .ok (.aload_n 0, 1) := by decide +kernel
theorem d_X8_check_1 : decode mi_X8_check.2.1 1 = .ok (.iload_n 1, 1) := by decide +kernel
theorem d_X8_check_2 : decode mi_X8_check.2.1 2 = .ok (.invokevirtual 289, 3) := by decide +kernel
theorem d_X8_check_5 : decode mi_X8_check.2.1 5 = .ok (.ifCond .ne 5, 3) := by decide +kernel
theorem d_X8_check_8 : decode mi_X8_check.2.1 8 = .ok (.iconst (-1), 1) := by decide +kernel
theorem d_X8_check_9 : decode mi_X8_check.2.1 9 = .ok (.ireturn, 1) := by decide +kernel
theorem d_X8_check_10 : decode mi_X8_check.2.1 10 = .ok (.aload_n 0, 1) := by decide +kernel
theorem d_X8_check_11 : decode mi_X8_check.2.1 11 = .ok (.invokevirtual 295, 3) := by decide +kernel
theorem d_X8_check_14 : decode mi_X8_check.2.1 14 = .ok (.pop, 1) := by decide +kernel
theorem d_X8_check_15 : decode mi_X8_check.2.1 15 = .ok (.iconst 0, 1) := by decide +kernel
theorem d_X8_check_16 : decode mi_X8_check.2.1 16 = .ok (.istore_n 2, 1) := by decide +kernel
theorem d_X8_check_17 : decode mi_X8_check.2.1 17 = .ok (.iload_n 2, 1) := by decide +kernel
theorem d_X8_check_18 : decode mi_X8_check.2.1 18 = .ok (.bipush 60, 2) := by decide +kernel
theorem d_X8_check_20 : decode mi_X8_check.2.1 20 = .ok (.if_icmp .ge 23, 3) := by decide +kernel
theorem d_X8_check_23 : decode mi_X8_check.2.1 23 = .ok (.aload_n 0, 1) := by decide +kernel
theorem d_X8_check_24 : decode mi_X8_check.2.1 24 = .ok (.getfield 125, 3) := by decide +kernel
theorem d_X8_check_27 : decode mi_X8_check.2.1 27 = .ok (.iload_n 2, 1) := by decide +kernel
theorem d_X8_check_28 : decode mi_X8_check.2.1 28 = .ok (.iconst 0, 1) := by decide +kernel
theorem d_X8_check_29 : decode mi_X8_check.2.1 29 = .ok (.bastore, 1) := by decide +kernel
theorem d_X8_check_30 : decode mi_X8_check.2.1 30 = .ok (.aload_n 0, 1) := by decide +kernel
theorem d_X8_check_31 : decode mi_X8_check.2.1 31 = .ok (.getfield 128, 3) := by decide +kernel
theorem d_X8_check_34 : decode mi_X8_check.2.1 34 = .ok (.iload_n 2, 1) := by decide +kernel
theorem d_X8_check_35 : decode mi_X8_check.2.1 35 = .ok (.iconst 0, 1) := by decide +kernel
theorem d_X8_check_36 : decode mi_X8_check.2.1 36 = .ok (.bastore, 1) := by decide +kernel
theorem d_X8_check_37 : decode mi_X8_check.2.1 37 = .ok (.iinc 2 1, 3) := by decide +kernel
theorem d_X8_check_40 : decode mi_X8_check.2.1 40 = .ok (.goto (-23), 3) := by decide +kernel
theorem d_X8_check_43 : decode mi_X8_check.2.1 43 = .ok (.iconst 0, 1) := by decide +kernel
theorem d_X8_check_44 : decode mi_X8_check.2.1 44 = .ok (.istore_n 2, 1) := by decide +kernel
theorem d_X8_check_45 : decode mi_X8_check.2.1 45 = .ok (.iload_n 2, 1) := by decide +kernel
theorem d_X8_check_46 : decode mi_X8_check.2.1 46 = .ok (.aload_n 0, 1) := by decide +kernel
theorem d_X8_check_47 : decode mi_X8_check.2.1 47 = .ok (.getfield 119, 3) := by decide +kernel
theorem d_X8_check_50 : decode mi_X8_check.2.1 50 = .ok (.iload_n 1, 1) := by decide +kernel
theorem d_X8_check_51 : decode mi_X8_check.2.1 51 = .ok (.iaload, 1) := by decide +kernel
theorem d_X8_check_52 : decode mi_X8_check.2.1 52 = .ok (.if_icmp .ge 21, 3) := by decide +kernel
theorem d_X8_check_55 : decode mi_X8_check.2.1 55 = .ok (.aload_n 0, 1) := by decide +kernel
theorem d_X8_check_56 : decode mi_X8_check.2.1 56 = .ok (.getfield 125, 3) := by decide +kernel
theorem d_X8_check_59 : decode mi_X8_check.2.1 59 = .ok (.aload_n 0, 1) := by decide +kernel
theorem d_X8_check_60 : decode mi_X8_check.2.1 60 = .ok (.iload_n 1, 1) := by decide +kernel
theorem d_X8_check_61 : decode mi_X8_check.2.1 61 = .ok (.iload_n 2, 1) := by decide +kernel
theorem d_X8_check_62 : decode mi_X8_check.2.1 62 = .ok (.invokevirtual 298, 3) := by decide +kernel
theorem d_X8_check_65 : decode mi_X8_check.2.1 65 = .ok (.iconst 1, 1) := by decide +kernel
theorem d_X8_check_66 : decode mi_X8_check.2.1 66 = .ok (.bastore, 1) := by decide +kernel
theorem d_X8_check_67 : decode mi_X8_check.2.1 67 = .ok (.iinc 2 1, 3) := by decide +kernel
theorem d_X8_check_70 : decode mi_X8_check.2.1 70 = .ok (.goto (-25), 3) := by decide +kernel
theorem d_X8_check_73 : decode mi_X8_check.2.1 73 = .ok (.iconst 0, 1) := by decide +kernel
theorem d_X8_check_74 : decode mi_X8_check.2.1 74 = .ok (.istore_n 2, 1) := by decide +kernel
theorem d_X8_check_75 : decode mi_X8_check.2.1 75 = .ok (.iload_n 2, 1) := by decide +kernel
theorem d_X8_check_76 : decode mi_X8_check.2.1 76 = .ok (.aload_n 0, 1) := by decide +kernel
theorem d_X8_check_77 : decode mi_X8_check.2.1 77 = .ok (.getfield 119, 3) := by decide +kernel
theorem d_X8_check_80 : decode mi_X8_check.2.1 80 = .ok (.iload_n 1, 1) := by decide +kernel
theorem d_X8_check_81 : decode mi_X8_check.2.1 81 = .ok (.iaload, 1) := by decide +kernel
theorem d_X8_check_82 : decode mi_X8_check.2.1 82 = .ok (.if_icmp .ge 42, 3) := by decide +kernel
theorem d_X8_check_85 : decode mi_X8_check.2.1 85 = .ok (.aload_n 0, 1) := by decide +kernel
theorem d_X8_check_86 : decode mi_X8_check.2.1 86 = .ok (.iload_n 1, 1) := by decide +kernel
theorem d_X8_check_87 : decode mi_X8_check.2.1 87 = .ok (.iload_n 2, 1) := by decide +kernel
theorem d_X8_check_88 : decode mi_X8_check.2.1 88 = .ok (.invokevirtual 298, 3) := by decide +kernel
theorem d_X8_check_91 : decode mi_X8_check.2.1 91 = .ok (.istore_n 3, 1) := by decide +kernel
theorem d_X8_check_92 : decode mi_X8_check.2.1 92 = .ok (.aload_n 0, 1) := by decide +kernel
theorem d_X8_check_93 : decode mi_X8_check.2.1 93 = .ok (.getfield 128, 3) := by decide +kernel
theorem d_X8_check_96 : decode mi_X8_check.2.1 96 = .ok (.iload_n 3, 1) := by decide +kernel
theorem d_X8_check_97 : decode mi_X8_check.2.1 97 = .ok (.baload, 1) := by decide +kernel
theorem d_X8_check_98 : decode mi_X8_check.2.1 98 = .ok (.ifCond .ne 13, 3) := by decide +kernel
theorem d_X8_check_101 : decode mi_X8_check.2.1 101 = .ok (.aload_n 0, 1) := by decide +kernel
theorem d_X8_check_102 : decode mi_X8_check.2.1 102 = .ok (.iload_n 3, 1) := by decide +kernel
theorem d_X8_check_103 : decode mi_X8_check.2.1 103 = .ok (.invokevirtual 308, 3) := by decide +kernel
theorem d_X8_check_106 : decode mi_X8_check.2.1 106 = .ok (.ifCond .ne 5, 3) := by decide +kernel
theorem d_X8_check_109 : decode mi_X8_check.2.1 109 = .ok (.iload_n 3, 1) := by decide +kernel
theorem d_X8_check_110 : decode mi_X8_check.2.1 110 = .ok (.ireturn, 1) := by decide +kernel
theorem d_X8_check_111 : decode mi_X8_check.2.1 111 = .ok (.aload_n 0, 1) := by decide +kernel
theorem d_X8_check_112 : decode mi_X8_check.2.1 112 = .ok (.getfield 128, 3) := by decide +kernel
theorem d_X8_check_115 : decode mi_X8_check.2.1 115 = .ok (.iload_n 3, 1) := by decide +kernel
theorem d_X8_check_116 : decode mi_X8_check.2.1 116 = .ok (.iconst 1, 1) := by decide +kernel
theorem d_X8_check_117 : decode mi_X8_check.2.1 117 = .ok (.bastore, 1) := by decide +kernel
theorem d_X8_check_118 : decode mi_X8_check.2.1 118 = .ok (.iinc 2 1, 3) := by decide +kernel
theorem d_X8_check_121 : decode mi_X8_check.2.1 121 = .ok (.goto (-46), 3) := by decide +kernel
theorem d_X8_check_124 : decode mi_X8_check.2.1 124 = .ok (.bipush (-4), 2) := by decide +kernel
theorem d_X8_check_126 : decode mi_X8_check.2.1 126 = .ok (.ireturn, 1) := by decide +kernel
theorem fl_X8_128 : FL RX8 128 8 49 48 := ⟨RX8, TX8, rfl, by decide, rfl, by decide +kernel, in_8⟩
theorem cw_X8_308 : CV RX8 308 mi_X8_rests 1 := by unfold CV; decide +kernel
def f_X8_check_111 (K75 : Int32 → Int32 → SS → Option (Int32 × SS)) (v1 : Int32) (v2 : Int32) (v3 : Int32) (σ : SS) : Option (Int32 × SS) := chk (inr v3 60) (lt_ (up σ 88 0 (ix v3) (1 : Int32)) (fun s1 => lt_ (v2 + (1 : Int32)) (fun x2 => K75 v1 x2 s1)))
set_option maxRecDepth 20000 in
theorem t_X8_check_111 {d : Nat} {X : MX} {Y : MY} {b : Nat × Nat} {r : Int32} {σ' : SS} {K75 : Int32 → Int32 → SS → Option (Int32 × SS)} {v1 : Int32} {v2 : Int32} {v3 : Int32} (hK75 : ∀ (v1 : Int32) (v2 : Int32) (σ : SS), K75 v1 v2 σ = some (r, σ') → WM (d + 7) X Y b mi_X8_check 75 [some (vR 25 0), some (vI v1), some (vI v2), none] [] σ (some (vI r), σ')) {σ : SS} (h : f_X8_check_111 K75 v1 v2 v3 σ = some (r, σ')) : WM (d + 7) X Y b mi_X8_check 111 [some (vR 25 0), some (vI v1), some (vI v2), some (vI v3)] [] σ (some (vI r), σ') := by
  rw [f_X8_check_111] at h
  refine r_aload_n (pc' := 112) d_X8_check_111 rfl rfl rfl ?_
  refine r_get (v := vR 88 _) (pc' := 115) fl_X8_128 d_X8_check_112 rfl rfl (fun g => Or.inl ⟨rfl, g.2⟩) rfl ?_
  refine r_iload_n (pc' := 116) d_X8_check_115 rfl rfl rfl ?_
  refine r_iconst (pc' := 117) d_X8_check_116 ci_1 rfl ?_
  refine l_bastore (pc' := 118) d_X8_check_117 rfl (fun _ => rfl) (by decide) (by decide) (fun _ => rfl) (Or.inr rfl) rfl h (fun s1 h => ?_)
  refine l_iinc (pc' := 121) d_X8_check_118 rfl ci_1 rfl rfl rfl h (fun x2 h => ?_)
  refine r_goto (pc' := 75) d_X8_check_121 rfl ?_
  exact WM.drop [3] rfl (hK75 _ _ _ h)
def f_X8_check_75 : Nat → Int32 → Int32 → SS → Option (Int32 × SS)
  | 0, _, _, _ => none
  | n + 1, v1, v2, σ => chk (inr v1 12) (if (σ.1 85 0 (ix v1)) ≤ v2 then (some ((-4 : Int32), σ)) else (cal (f_X8_walkedAt v1 v2 σ) (fun x2 s1 => chk (inr x2 60) (if (s1.1 88 0 (ix x2)) = 0 then (cal (f_X8_rests x2 s1) (fun x4 s3 => if x4 = 0 then (some (x2, s3)) else (f_X8_check_111 (f_X8_check_75 n) v1 v2 x2 s3))) else (f_X8_check_111 (f_X8_check_75 n) v1 v2 x2 s1)))))
set_option maxRecDepth 20000 in
theorem t_X8_check_75 {d : Nat} {X : MX} {Y : MY} {b : Nat × Nat} {r : Int32} {σ' : SS} : ∀ (n : Nat) (v1 : Int32) (v2 : Int32) (σ : SS), f_X8_check_75 n v1 v2 σ = some (r, σ') → WM (d + 7) X Y b mi_X8_check 75 [some (vR 25 0), some (vI v1), some (vI v2), none] [] σ (some (vI r), σ') := by
  intro n
  induction n with
  | zero => intro _ _ σ h; cases h
  | succ n ih =>
    intro v1 v2 σ h
    rw [f_X8_check_75] at h
    refine r_iload_n (pc' := 76) d_X8_check_75 rfl rfl rfl ?_
    refine r_aload_n (pc' := 77) d_X8_check_76 rfl rfl rfl ?_
    refine r_get (v := vR 85 _) (pc' := 80) fl_X8_119 d_X8_check_77 rfl rfl (fun g => Or.inl ⟨rfl, g.2⟩) rfl ?_
    refine r_iload_n (pc' := 81) d_X8_check_80 rfl rfl rfl ?_
    refine r_iaload (pc' := 82) d_X8_check_81 rfl (fun _ => rfl) rfl h (fun h => ?_)
    refine r_icmp_ge (pcT := 124) (pc' := 85) d_X8_check_82 rfl rfl h (fun _ h => ?_) (fun _ h => ?_)
    · refine r_bipush (pc' := 126) d_X8_check_124 cb_m4 rfl ?_
      exact r_iret d_X8_check_126 rfl h
    · refine r_aload_n (pc' := 86) d_X8_check_85 rfl rfl rfl ?_
      refine r_iload_n (pc' := 87) d_X8_check_86 rfl rfl rfl ?_
      refine r_iload_n (pc' := 88) d_X8_check_87 rfl rfl rfl ?_
      refine v2_i (mc := mi_X8_walkedAt) (bc := (0, 0)) (b' := _) (pc' := 91) cw_X8_298 d_X8_check_88 rfl rfl rfl (Nat.zero_add _).symm (Nat.zero_add _).symm rfl h (fun _ _ e => t_X8_walkedAt e) (fun x2 s1 h => ?_)
      refine r_istore_n (pc' := 92) d_X8_check_91 rfl rfl rfl rfl ?_
      refine r_aload_n (pc' := 93) d_X8_check_92 rfl rfl rfl ?_
      refine r_get (v := vR 88 _) (pc' := 96) fl_X8_128 d_X8_check_93 rfl rfl (fun g => Or.inl ⟨rfl, g.2⟩) rfl ?_
      refine r_iload_n (pc' := 97) d_X8_check_96 rfl rfl rfl ?_
      refine r_baload (pc' := 98) d_X8_check_97 rfl (fun _ => rfl) rfl h (fun h => ?_)
      refine r_if_ne (pcT := 111) (pc' := 101) d_X8_check_98 rfl rfl h (fun _ h => ?_) (fun _ h => ?_)
      · refine r_aload_n (pc' := 102) d_X8_check_101 rfl rfl rfl ?_
        refine r_iload_n (pc' := 103) d_X8_check_102 rfl rfl rfl ?_
        refine v1_i (mc := mi_X8_rests) (bc := (0, 0)) (b' := _) (pc' := 106) cw_X8_308 d_X8_check_103 rfl rfl rfl (Nat.zero_add _).symm (Nat.zero_add _).symm rfl h (fun _ _ e => t_X8_rests e) (fun x4 s3 h => ?_)
        refine r_if_ne (pcT := 111) (pc' := 109) d_X8_check_106 rfl rfl h (fun _ h => ?_) (fun _ h => ?_)
        · refine r_iload_n (pc' := 110) d_X8_check_109 rfl rfl rfl ?_
          exact r_iret d_X8_check_110 rfl h
        · exact WM.drop [] rfl (t_X8_check_111 ih h)
      · exact WM.drop [] rfl (t_X8_check_111 ih h)
def f_X8_check_73 (v1 : Int32) (σ : SS) : Option (Int32 × SS) := f_X8_check_75 FU v1 (0 : Int32) σ
set_option maxRecDepth 20000 in
theorem t_X8_check_73 {d : Nat} {X : MX} {Y : MY} {b : Nat × Nat} {r : Int32} {σ' : SS} {v1 : Int32} {σ : SS} (h : f_X8_check_73 v1 σ = some (r, σ')) : WM (d + 7) X Y b mi_X8_check 73 [some (vR 25 0), some (vI v1), none, none] [] σ (some (vI r), σ') := by
  rw [f_X8_check_73] at h
  refine r_iconst (pc' := 74) d_X8_check_73 ci_0 rfl ?_
  refine r_istore_n (pc' := 75) d_X8_check_74 rfl rfl rfl rfl ?_
  exact WM.drop [] rfl (t_X8_check_75 _ _ _ _ h)
def f_X8_check_45 : Nat → Int32 → Int32 → SS → Option (Int32 × SS)
  | 0, _, _, _ => none
  | n + 1, v1, v2, σ => chk (inr v1 12) (if (σ.1 85 0 (ix v1)) ≤ v2 then (f_X8_check_73 v1 σ) else (cal (f_X8_walkedAt v1 v2 σ) (fun x2 s1 => chk (inr x2 60) (lt_ (up s1 87 0 (ix x2) (1 : Int32)) (fun s3 => lt_ (v2 + (1 : Int32)) (fun x4 => f_X8_check_45 n v1 x4 s3))))))
set_option maxRecDepth 20000 in
theorem t_X8_check_45 {d : Nat} {X : MX} {Y : MY} {b : Nat × Nat} {r : Int32} {σ' : SS} : ∀ (n : Nat) (v1 : Int32) (v2 : Int32) (σ : SS), f_X8_check_45 n v1 v2 σ = some (r, σ') → WM (d + 7) X Y b mi_X8_check 45 [some (vR 25 0), some (vI v1), some (vI v2), none] [] σ (some (vI r), σ') := by
  intro n
  induction n with
  | zero => intro _ _ σ h; cases h
  | succ n ih =>
    intro v1 v2 σ h
    rw [f_X8_check_45] at h
    refine r_iload_n (pc' := 46) d_X8_check_45 rfl rfl rfl ?_
    refine r_aload_n (pc' := 47) d_X8_check_46 rfl rfl rfl ?_
    refine r_get (v := vR 85 _) (pc' := 50) fl_X8_119 d_X8_check_47 rfl rfl (fun g => Or.inl ⟨rfl, g.2⟩) rfl ?_
    refine r_iload_n (pc' := 51) d_X8_check_50 rfl rfl rfl ?_
    refine r_iaload (pc' := 52) d_X8_check_51 rfl (fun _ => rfl) rfl h (fun h => ?_)
    refine r_icmp_ge (pcT := 73) (pc' := 55) d_X8_check_52 rfl rfl h (fun _ h => ?_) (fun _ h => ?_)
    · exact WM.drop [2] rfl (t_X8_check_73 h)
    · refine r_aload_n (pc' := 56) d_X8_check_55 rfl rfl rfl ?_
      refine r_get (v := vR 87 _) (pc' := 59) fl_X8_125 d_X8_check_56 rfl rfl (fun g => Or.inl ⟨rfl, g.2⟩) rfl ?_
      refine r_aload_n (pc' := 60) d_X8_check_59 rfl rfl rfl ?_
      refine r_iload_n (pc' := 61) d_X8_check_60 rfl rfl rfl ?_
      refine r_iload_n (pc' := 62) d_X8_check_61 rfl rfl rfl ?_
      refine v2_i (mc := mi_X8_walkedAt) (bc := (0, 0)) (b' := _) (pc' := 65) cw_X8_298 d_X8_check_62 rfl rfl rfl (Nat.zero_add _).symm (Nat.zero_add _).symm rfl h (fun _ _ e => t_X8_walkedAt e) (fun x2 s1 h => ?_)
      refine r_iconst (pc' := 66) d_X8_check_65 ci_1 rfl ?_
      refine l_bastore (pc' := 67) d_X8_check_66 rfl (fun _ => rfl) (by decide) (by decide) (fun _ => rfl) (Or.inr rfl) rfl h (fun s3 h => ?_)
      refine l_iinc (pc' := 70) d_X8_check_67 rfl ci_1 rfl rfl rfl h (fun x4 h => ?_)
      refine r_goto (pc' := 45) d_X8_check_70 rfl ?_
      exact WM.drop [] rfl (ih _ _ _ h)
def f_X8_check_43 (v1 : Int32) (σ : SS) : Option (Int32 × SS) := f_X8_check_45 FU v1 (0 : Int32) σ
set_option maxRecDepth 20000 in
theorem t_X8_check_43 {d : Nat} {X : MX} {Y : MY} {b : Nat × Nat} {r : Int32} {σ' : SS} {v1 : Int32} {σ : SS} (h : f_X8_check_43 v1 σ = some (r, σ')) : WM (d + 7) X Y b mi_X8_check 43 [some (vR 25 0), some (vI v1), none, none] [] σ (some (vI r), σ') := by
  rw [f_X8_check_43] at h
  refine r_iconst (pc' := 44) d_X8_check_43 ci_0 rfl ?_
  refine r_istore_n (pc' := 45) d_X8_check_44 rfl rfl rfl rfl ?_
  exact WM.drop [] rfl (t_X8_check_45 _ _ _ _ h)
def f_X8_check_17 : Nat → Int32 → Int32 → SS → Option (Int32 × SS)
  | 0, _, _, _ => none
  | n + 1, v1, v2, σ => if (60 : Int32) ≤ v2 then (f_X8_check_43 v1 σ) else (chk (inr v2 60) (lt_ (up σ 87 0 (ix v2) (0 : Int32)) (fun s1 => chk (inr v2 60) (lt_ (up s1 88 0 (ix v2) (0 : Int32)) (fun s2 => lt_ (v2 + (1 : Int32)) (fun x3 => f_X8_check_17 n v1 x3 s2))))))
set_option maxRecDepth 20000 in
theorem t_X8_check_17 {d : Nat} {X : MX} {Y : MY} {b : Nat × Nat} {r : Int32} {σ' : SS} : ∀ (n : Nat) (v1 : Int32) (v2 : Int32) (σ : SS), f_X8_check_17 n v1 v2 σ = some (r, σ') → WM (d + 7) X Y b mi_X8_check 17 [some (vR 25 0), some (vI v1), some (vI v2), none] [] σ (some (vI r), σ') := by
  intro n
  induction n with
  | zero => intro _ _ σ h; cases h
  | succ n ih =>
    intro v1 v2 σ h
    rw [f_X8_check_17] at h
    refine r_iload_n (pc' := 18) d_X8_check_17 rfl rfl rfl ?_
    refine r_bipush (pc' := 20) d_X8_check_18 cb_60 rfl ?_
    refine r_icmp_ge (pcT := 43) (pc' := 23) d_X8_check_20 rfl rfl h (fun _ h => ?_) (fun _ h => ?_)
    · exact WM.drop [2] rfl (t_X8_check_43 h)
    · refine r_aload_n (pc' := 24) d_X8_check_23 rfl rfl rfl ?_
      refine r_get (v := vR 87 _) (pc' := 27) fl_X8_125 d_X8_check_24 rfl rfl (fun g => Or.inl ⟨rfl, g.2⟩) rfl ?_
      refine r_iload_n (pc' := 28) d_X8_check_27 rfl rfl rfl ?_
      refine r_iconst (pc' := 29) d_X8_check_28 ci_0 rfl ?_
      refine l_bastore (pc' := 30) d_X8_check_29 rfl (fun _ => rfl) (by decide) (by decide) (fun _ => rfl) (Or.inl rfl) rfl h (fun s1 h => ?_)
      refine r_aload_n (pc' := 31) d_X8_check_30 rfl rfl rfl ?_
      refine r_get (v := vR 88 _) (pc' := 34) fl_X8_128 d_X8_check_31 rfl rfl (fun g => Or.inl ⟨rfl, g.2⟩) rfl ?_
      refine r_iload_n (pc' := 35) d_X8_check_34 rfl rfl rfl ?_
      refine r_iconst (pc' := 36) d_X8_check_35 ci_0 rfl ?_
      refine l_bastore (pc' := 37) d_X8_check_36 rfl (fun _ => rfl) (by decide) (by decide) (fun _ => rfl) (Or.inl rfl) rfl h (fun s2 h => ?_)
      refine l_iinc (pc' := 40) d_X8_check_37 rfl ci_1 rfl rfl rfl h (fun x3 h => ?_)
      refine r_goto (pc' := 17) d_X8_check_40 rfl ?_
      exact WM.drop [] rfl (ih _ _ _ h)
def f_X8_check (v1 : Int32) (σ : SS) : Option (Int32 × SS) := cal (f_X8_isAssembly v1 σ) (fun x2 s1 => if x2 = 0 then (some ((-1 : Int32), s1)) else (cal (f_X8_countWalks  s1) (fun x4 s3 => f_X8_check_17 FU v1 (0 : Int32) s3)))
set_option maxRecDepth 20000 in
theorem t_X8_check {d : Nat} {b : Nat × Nat} {v1 : Int32} {σ : SS} {r : Int32} {σ' : SS} (h : f_X8_check v1 σ = some (r, σ')) : MM (d + 7) b mi_X8_check [vR 25 0, vI v1] σ (some (vI r), σ') := by
  refine MM.of (lv := [some (vR 25 0), some (vI v1), none, none]) (by decide +kernel) rfl rfl (fun X Y => ?_)
  rw [f_X8_check] at h
  refine r_aload_n (pc' := 1) d_X8_check_0 rfl rfl rfl ?_
  refine r_iload_n (pc' := 2) d_X8_check_1 rfl rfl rfl ?_
  refine v1_i (mc := mi_X8_isAssembly) (bc := (0, 0)) (b' := _) (pc' := 5) cw_X8_289 d_X8_check_2 rfl rfl rfl (Nat.zero_add _).symm (Nat.zero_add _).symm rfl h (fun _ _ e => t_X8_isAssembly e) (fun x2 s1 h => ?_)
  refine r_if_ne (pcT := 10) (pc' := 8) d_X8_check_5 rfl rfl h (fun _ h => ?_) (fun _ h => ?_)
  · refine r_iconst (pc' := 9) d_X8_check_8 ci_m1 rfl ?_
    exact r_iret d_X8_check_9 rfl h
  · refine r_aload_n (pc' := 11) d_X8_check_10 rfl rfl rfl ?_
    refine v0_i (mc := mi_X8_countWalks) (bc := (0, 0)) (b' := _) (pc' := 14) cw_X8_295 d_X8_check_11 rfl rfl rfl (Nat.zero_add _).symm (Nat.zero_add _).symm rfl h (fun _ _ e => t_X8_countWalks e) (fun x4 s3 h => ?_)
    refine r_pop (pc' := 15) d_X8_check_14 rfl rfl ?_
    refine r_iconst (pc' := 16) d_X8_check_15 ci_0 rfl ?_
    refine r_istore_n (pc' := 17) d_X8_check_16 rfl rfl rfl rfl ?_
    exact WM.drop [] rfl (t_X8_check_17 _ _ _ _ h)
/-! OctagonYardModel.count(I)I -/
def mi_X8_count : MI := (yX8_count, cX8_count, 5, (some .int))
theorem d_X8_count_0 : decode mi_X8_count.2.1 0 = .ok (.iconst 0, 1) := by decide +kernel
theorem d_X8_count_1 : decode mi_X8_count.2.1 1 = .ok (.istore_n 2, 1) := by decide +kernel
theorem d_X8_count_2 : decode mi_X8_count.2.1 2 = .ok (.iconst 0, 1) := by decide +kernel
theorem d_X8_count_3 : decode mi_X8_count.2.1 3 = .ok (.istore_n 3, 1) := by decide +kernel
theorem d_X8_count_4 : decode mi_X8_count.2.1 4 = .ok (.iconst 0, 1) := by decide +kernel
theorem d_X8_count_5 : decode mi_X8_count.2.1 5 = .ok (.istore 4, 2) := by decide +kernel
theorem d_X8_count_7 : decode mi_X8_count.2.1 7 = .ok (.iload 4, 2) := by decide +kernel
theorem d_X8_count_9 : decode mi_X8_count.2.1 9 = .ok (.aload_n 0, 1) := by decide +kernel
theorem d_X8_count_10 : decode mi_X8_count.2.1 10 = .ok (.getfield 135, 3) := by decide +kernel
theorem d_X8_count_13 : decode mi_X8_count.2.1 13 = .ok (.if_icmp .ge 45, 3) := by decide +kernel
theorem d_X8_count_16 : decode mi_X8_count.2.1 16 = .ok (.iload_n 2, 1) := by decide +kernel
theorem d_X8_count_17 : decode mi_X8_count.2.1 17 = .ok (.aload_n 0, 1) := by decide +kernel
theorem d_X8_count_18 : decode mi_X8_count.2.1 18 = .ok (.getfield 28, 3) := by decide +kernel
theorem d_X8_count_21 : decode mi_X8_count.2.1 21 = .ok (.iload 4, 2) := by decide +kernel
theorem d_X8_count_23 : decode mi_X8_count.2.1 23 = .ok (.baload, 1) := by decide +kernel
theorem d_X8_count_24 : decode mi_X8_count.2.1 24 = .ok (.ifCond .eq 7, 3) := by decide +kernel
theorem d_X8_count_27 : decode mi_X8_count.2.1 27 = .ok (.iconst 1, 1) := by decide +kernel
theorem d_X8_count_28 : decode mi_X8_count.2.1 28 = .ok (.goto 4, 3) := by decide +kernel
theorem d_X8_count_31 : decode mi_X8_count.2.1 31 = .ok (.iconst 0, 1) := by decide +kernel
theorem d_X8_count_32 : decode mi_X8_count.2.1 32 = .ok (.iadd, 1) := by decide +kernel
theorem d_X8_count_33 : decode mi_X8_count.2.1 33 = .ok (.istore_n 2, 1) := by decide +kernel
theorem d_X8_count_34 : decode mi_X8_count.2.1 34 = .ok (.iload_n 3, 1) := by decide +kernel
theorem d_X8_count_35 : decode mi_X8_count.2.1 35 = .ok (.aload_n 0, 1) := by decide +kernel
theorem d_X8_count_36 : decode mi_X8_count.2.1 36 = .ok (.getfield 41, 3) := by decide +kernel
theorem d_X8_count_39 : decode mi_X8_count.2.1 39 = .ok (.iload 4, 2) := by decide +kernel
theorem d_X8_count_41 : decode mi_X8_count.2.1 41 = .ok (.baload, 1) := by decide +kernel
theorem d_X8_count_42 : decode mi_X8_count.2.1 42 = .ok (.ifCond .eq 7, 3) := by decide +kernel
theorem d_X8_count_45 : decode mi_X8_count.2.1 45 = .ok (.iconst 1, 1) := by decide +kernel
theorem d_X8_count_46 : decode mi_X8_count.2.1 46 = .ok (.goto 4, 3) := by decide +kernel
theorem d_X8_count_49 : decode mi_X8_count.2.1 49 = .ok (.iconst 0, 1) := by decide +kernel
theorem d_X8_count_50 : decode mi_X8_count.2.1 50 = .ok (.iadd, 1) := by decide +kernel
theorem d_X8_count_51 : decode mi_X8_count.2.1 51 = .ok (.istore_n 3, 1) := by decide +kernel
theorem d_X8_count_52 : decode mi_X8_count.2.1 52 = .ok (.iinc 4 1, 3) := by decide +kernel
theorem d_X8_count_55 : decode mi_X8_count.2.1 55 = .ok (.goto (-48), 3) := by decide +kernel
theorem d_X8_count_58 : decode mi_X8_count.2.1 58 = .ok (.iload_n 1, 1) := by decide +kernel
theorem d_X8_count_59 : decode mi_X8_count.2.1 59 = .ok (.ifCond .ne 7, 3) := by decide +kernel
theorem d_X8_count_62 : decode mi_X8_count.2.1 62 = .ok (.iload_n 2, 1) := by decide +kernel
theorem d_X8_count_63 : decode mi_X8_count.2.1 63 = .ok (.goto 37, 3) := by decide +kernel
theorem d_X8_count_66 : decode mi_X8_count.2.1 66 = .ok (.iload_n 1, 1) := by decide +kernel
theorem d_X8_count_67 : decode mi_X8_count.2.1 67 = .ok (.iconst 1, 1) := by decide +kernel
theorem d_X8_count_68 : decode mi_X8_count.2.1 68 = .ok (.if_icmp .ne 10, 3) := by decide +kernel
theorem d_X8_count_71 : decode mi_X8_count.2.1 71 = .ok (.aload_n 0, 1) := by decide +kernel
theorem d_X8_count_72 : decode mi_X8_count.2.1 72 = .ok (.getfield 261, 3) := by decide +kernel
theorem d_X8_count_75 : decode mi_X8_count.2.1 75 = .ok (.goto 25, 3) := by decide +kernel
theorem d_X8_count_78 : decode mi_X8_count.2.1 78 = .ok (.iload_n 1, 1) := by decide +kernel
theorem d_X8_count_79 : decode mi_X8_count.2.1 79 = .ok (.iconst 2, 1) := by decide +kernel
theorem d_X8_count_80 : decode mi_X8_count.2.1 80 = .ok (.if_icmp .ne 10, 3) := by decide +kernel
theorem d_X8_count_83 : decode mi_X8_count.2.1 83 = .ok (.aload_n 0, 1) := by decide +kernel
theorem d_X8_count_84 : decode mi_X8_count.2.1 84 = .ok (.getfield 285, 3) := by decide +kernel
theorem d_X8_count_87 : decode mi_X8_count.2.1 87 = .ok (.goto 13, 3) := by decide +kernel
theorem d_X8_count_90 : decode mi_X8_count.2.1 90 = .ok (.iload_n 1, 1) := by decide +kernel
theorem d_X8_count_91 : decode mi_X8_count.2.1 91 = .ok (.iconst 3, 1) := by decide +kernel
theorem d_X8_count_92 : decode mi_X8_count.2.1 92 = .ok (.if_icmp .ne 7, 3) := by decide +kernel
theorem d_X8_count_95 : decode mi_X8_count.2.1 95 = .ok (.iload_n 3, 1) := by decide +kernel
theorem d_X8_count_96 : decode mi_X8_count.2.1 96 = .ok (.goto 4, 3) := by decide +kernel
theorem d_X8_count_99 : decode mi_X8_count.2.1 99 = .ok (.iconst (-1), 1) := by decide +kernel
theorem d_X8_count_100 : decode mi_X8_count.2.1 100 = .ok (.ireturn, 1) := by decide +kernel
def f_X8_count_58 (v1 : Int32) (v2 : Int32) (v3 : Int32) (σ : SS) : Option (Int32 × SS) := if v1 = 0 then (some (v2, σ)) else (if v1 = (1 : Int32) then (some ((σ.1 25 0 35), σ)) else (if v1 = (2 : Int32) then (some ((σ.1 25 0 41), σ)) else (if v1 = (3 : Int32) then (some (v3, σ)) else (some ((-1 : Int32), σ)))))
set_option maxRecDepth 20000 in
theorem t_X8_count_58 {d : Nat} {X : MX} {Y : MY} {b : Nat × Nat} {r : Int32} {σ' : SS} {v1 : Int32} {v2 : Int32} {v3 : Int32} {σ : SS} (h : f_X8_count_58 v1 v2 v3 σ = some (r, σ')) : WM d X Y b mi_X8_count 58 [some (vR 25 0), some (vI v1), some (vI v2), some (vI v3), none] [] σ (some (vI r), σ') := by
  rw [f_X8_count_58] at h
  refine r_iload_n (pc' := 59) d_X8_count_58 rfl rfl rfl ?_
  refine r_if_ne (pcT := 66) (pc' := 62) d_X8_count_59 rfl rfl h (fun _ h => ?_) (fun _ h => ?_)
  · refine r_iload_n (pc' := 63) d_X8_count_62 rfl rfl rfl ?_
    refine r_goto (pc' := 100) d_X8_count_63 rfl ?_
    exact r_iret d_X8_count_100 rfl h
  · refine r_iload_n (pc' := 67) d_X8_count_66 rfl rfl rfl ?_
    refine r_iconst (pc' := 68) d_X8_count_67 ci_1 rfl ?_
    refine r_icmp_ne (pcT := 78) (pc' := 71) d_X8_count_68 rfl rfl h (fun _ h => ?_) (fun _ h => ?_)
    · refine r_aload_n (pc' := 72) d_X8_count_71 rfl rfl rfl ?_
      refine r_get (v := vI _) (pc' := 75) fl_X8_261 d_X8_count_72 rfl rfl (fun _ => trivial) rfl ?_
      refine r_goto (pc' := 100) d_X8_count_75 rfl ?_
      exact r_iret d_X8_count_100 rfl h
    · refine r_iload_n (pc' := 79) d_X8_count_78 rfl rfl rfl ?_
      refine r_iconst (pc' := 80) d_X8_count_79 ci_2 rfl ?_
      refine r_icmp_ne (pcT := 90) (pc' := 83) d_X8_count_80 rfl rfl h (fun _ h => ?_) (fun _ h => ?_)
      · refine r_aload_n (pc' := 84) d_X8_count_83 rfl rfl rfl ?_
        refine r_get (v := vI _) (pc' := 87) fl_X8_285 d_X8_count_84 rfl rfl (fun _ => trivial) rfl ?_
        refine r_goto (pc' := 100) d_X8_count_87 rfl ?_
        exact r_iret d_X8_count_100 rfl h
      · refine r_iload_n (pc' := 91) d_X8_count_90 rfl rfl rfl ?_
        refine r_iconst (pc' := 92) d_X8_count_91 ci_3 rfl ?_
        refine r_icmp_ne (pcT := 99) (pc' := 95) d_X8_count_92 rfl rfl h (fun _ h => ?_) (fun _ h => ?_)
        · refine r_iload_n (pc' := 96) d_X8_count_95 rfl rfl rfl ?_
          refine r_goto (pc' := 100) d_X8_count_96 rfl ?_
          exact r_iret d_X8_count_100 rfl h
        · refine r_iconst (pc' := 100) d_X8_count_99 ci_m1 rfl ?_
          exact r_iret d_X8_count_100 rfl h
def f_X8_count_50 (K7 : Int32 → Int32 → Int32 → Int32 → SS → Option (Int32 × SS)) (v1 : Int32) (v2 : Int32) (v4 : Int32) (u0 : Int32) (u1 : Int32) (σ : SS) : Option (Int32 × SS) := lt_ (u0 + u1) (fun x1 => lt_ (v4 + (1 : Int32)) (fun x2 => K7 v1 v2 x1 x2 σ))
set_option maxRecDepth 20000 in
theorem t_X8_count_50 {d : Nat} {X : MX} {Y : MY} {b : Nat × Nat} {r : Int32} {σ' : SS} {K7 : Int32 → Int32 → Int32 → Int32 → SS → Option (Int32 × SS)} {v1 : Int32} {v2 : Int32} {v4 : Int32} {u0 : Int32} {u1 : Int32} (hK7 : ∀ (v1 : Int32) (v2 : Int32) (v3 : Int32) (v4 : Int32) (σ : SS), K7 v1 v2 v3 v4 σ = some (r, σ') → WM d X Y b mi_X8_count 7 [some (vR 25 0), some (vI v1), some (vI v2), some (vI v3), some (vI v4)] [] σ (some (vI r), σ')) {σ : SS} (h : f_X8_count_50 K7 v1 v2 v4 u0 u1 σ = some (r, σ')) : WM d X Y b mi_X8_count 50 [some (vR 25 0), some (vI v1), some (vI v2), none, some (vI v4)] [vI u1, vI u0] σ (some (vI r), σ') := by
  rw [f_X8_count_50] at h
  refine r_iadd (pc' := 51) d_X8_count_50 rfl ?_
  refine l_istore_n (pc' := 52) d_X8_count_51 rfl rfl rfl rfl h (fun x1 h => ?_)
  refine l_iinc (pc' := 55) d_X8_count_52 rfl ci_1 rfl rfl rfl h (fun x2 h => ?_)
  refine r_goto (pc' := 7) d_X8_count_55 rfl ?_
  exact WM.drop [] rfl (hK7 _ _ _ _ _ h)
def f_X8_count_32 (K7 : Int32 → Int32 → Int32 → Int32 → SS → Option (Int32 × SS)) (v1 : Int32) (v3 : Int32) (v4 : Int32) (u0 : Int32) (u1 : Int32) (σ : SS) : Option (Int32 × SS) := lt_ (u0 + u1) (fun x1 => chk (inr v4 60) (if (σ.1 51 0 (ix v4)) = 0 then (f_X8_count_50 K7 v1 x1 v4 v3 (0 : Int32) σ) else (f_X8_count_50 K7 v1 x1 v4 v3 (1 : Int32) σ)))
set_option maxRecDepth 20000 in
theorem t_X8_count_32 {d : Nat} {X : MX} {Y : MY} {b : Nat × Nat} {r : Int32} {σ' : SS} {K7 : Int32 → Int32 → Int32 → Int32 → SS → Option (Int32 × SS)} {v1 : Int32} {v3 : Int32} {v4 : Int32} {u0 : Int32} {u1 : Int32} (hK7 : ∀ (v1 : Int32) (v2 : Int32) (v3 : Int32) (v4 : Int32) (σ : SS), K7 v1 v2 v3 v4 σ = some (r, σ') → WM d X Y b mi_X8_count 7 [some (vR 25 0), some (vI v1), some (vI v2), some (vI v3), some (vI v4)] [] σ (some (vI r), σ')) {σ : SS} (h : f_X8_count_32 K7 v1 v3 v4 u0 u1 σ = some (r, σ')) : WM d X Y b mi_X8_count 32 [some (vR 25 0), some (vI v1), none, some (vI v3), some (vI v4)] [vI u1, vI u0] σ (some (vI r), σ') := by
  rw [f_X8_count_32] at h
  refine r_iadd (pc' := 33) d_X8_count_32 rfl ?_
  refine l_istore_n (pc' := 34) d_X8_count_33 rfl rfl rfl rfl h (fun x1 h => ?_)
  refine r_iload_n (pc' := 35) d_X8_count_34 rfl rfl rfl ?_
  refine r_aload_n (pc' := 36) d_X8_count_35 rfl rfl rfl ?_
  refine r_get (v := vR 51 _) (pc' := 39) fl_X8_41 d_X8_count_36 rfl rfl (fun g => Or.inl ⟨rfl, g.2⟩) rfl ?_
  refine r_iload (pc' := 41) d_X8_count_39 rfl rfl ?_
  refine r_baload (pc' := 42) d_X8_count_41 rfl (fun _ => rfl) rfl h (fun h => ?_)
  refine r_if_eq (pcT := 49) (pc' := 45) d_X8_count_42 rfl rfl h (fun _ h => ?_) (fun _ h => ?_)
  · refine r_iconst (pc' := 50) d_X8_count_49 ci_0 rfl ?_
    exact WM.drop [3] rfl (t_X8_count_50 hK7 h)
  · refine r_iconst (pc' := 46) d_X8_count_45 ci_1 rfl ?_
    refine r_goto (pc' := 50) d_X8_count_46 rfl ?_
    exact WM.drop [3] rfl (t_X8_count_50 hK7 h)
def f_X8_count_7 : Nat → Int32 → Int32 → Int32 → Int32 → SS → Option (Int32 × SS)
  | 0, _, _, _, _, _ => none
  | n + 1, v1, v2, v3, v4, σ => if (σ.1 25 0 6) ≤ v4 then (f_X8_count_58 v1 v2 v3 σ) else (chk (inr v4 60) (if (σ.1 47 0 (ix v4)) = 0 then (f_X8_count_32 (f_X8_count_7 n) v1 v3 v4 v2 (0 : Int32) σ) else (f_X8_count_32 (f_X8_count_7 n) v1 v3 v4 v2 (1 : Int32) σ)))
set_option maxRecDepth 20000 in
theorem t_X8_count_7 {d : Nat} {X : MX} {Y : MY} {b : Nat × Nat} {r : Int32} {σ' : SS} : ∀ (n : Nat) (v1 : Int32) (v2 : Int32) (v3 : Int32) (v4 : Int32) (σ : SS), f_X8_count_7 n v1 v2 v3 v4 σ = some (r, σ') → WM d X Y b mi_X8_count 7 [some (vR 25 0), some (vI v1), some (vI v2), some (vI v3), some (vI v4)] [] σ (some (vI r), σ') := by
  intro n
  induction n with
  | zero => intro _ _ _ _ σ h; cases h
  | succ n ih =>
    intro v1 v2 v3 v4 σ h
    rw [f_X8_count_7] at h
    refine r_iload (pc' := 9) d_X8_count_7 rfl rfl ?_
    refine r_aload_n (pc' := 10) d_X8_count_9 rfl rfl rfl ?_
    refine r_get (v := vI _) (pc' := 13) fl_X8_135 d_X8_count_10 rfl rfl (fun _ => trivial) rfl ?_
    refine r_icmp_ge (pcT := 58) (pc' := 16) d_X8_count_13 rfl rfl h (fun _ h => ?_) (fun _ h => ?_)
    · exact WM.drop [4] rfl (t_X8_count_58 h)
    · refine r_iload_n (pc' := 17) d_X8_count_16 rfl rfl rfl ?_
      refine r_aload_n (pc' := 18) d_X8_count_17 rfl rfl rfl ?_
      refine r_get (v := vR 47 _) (pc' := 21) fl_X8_28 d_X8_count_18 rfl rfl (fun g => Or.inl ⟨rfl, g.2⟩) rfl ?_
      refine r_iload (pc' := 23) d_X8_count_21 rfl rfl ?_
      refine r_baload (pc' := 24) d_X8_count_23 rfl (fun _ => rfl) rfl h (fun h => ?_)
      refine r_if_eq (pcT := 31) (pc' := 27) d_X8_count_24 rfl rfl h (fun _ h => ?_) (fun _ h => ?_)
      · refine r_iconst (pc' := 32) d_X8_count_31 ci_0 rfl ?_
        exact WM.drop [2] rfl (t_X8_count_32 ih h)
      · refine r_iconst (pc' := 28) d_X8_count_27 ci_1 rfl ?_
        refine r_goto (pc' := 32) d_X8_count_28 rfl ?_
        exact WM.drop [2] rfl (t_X8_count_32 ih h)
def f_X8_count (v1 : Int32) (σ : SS) : Option (Int32 × SS) := f_X8_count_7 FU v1 (0 : Int32) (0 : Int32) (0 : Int32) σ
set_option maxRecDepth 20000 in
theorem t_X8_count {d : Nat} {b : Nat × Nat} {v1 : Int32} {σ : SS} {r : Int32} {σ' : SS} (h : f_X8_count v1 σ = some (r, σ')) : MM d b mi_X8_count [vR 25 0, vI v1] σ (some (vI r), σ') := by
  refine MM.of (lv := [some (vR 25 0), some (vI v1), none, none, none]) (by decide +kernel) rfl rfl (fun X Y => ?_)
  rw [f_X8_count] at h
  refine r_iconst (pc' := 1) d_X8_count_0 ci_0 rfl ?_
  refine r_istore_n (pc' := 2) d_X8_count_1 rfl rfl rfl rfl ?_
  refine r_iconst (pc' := 3) d_X8_count_2 ci_0 rfl ?_
  refine r_istore_n (pc' := 4) d_X8_count_3 rfl rfl rfl rfl ?_
  refine r_iconst (pc' := 5) d_X8_count_4 ci_0 rfl ?_
  refine r_istore (pc' := 7) d_X8_count_5 rfl rfl rfl ?_
  exact WM.drop [] rfl (t_X8_count_7 _ _ _ _ _ _ h)
