/-! OctagonYardModel.undo()I -/
def mi_X8_undo : MI := (yX8_undo, cX8_undo, 4, (some .int))
theorem d_X8_undo_0 : decode mi_X8_undo.2.1 0 = .ok (.aload_n 0, 1) := by decide +kernel
theorem d_X8_undo_1 : decode mi_X8_undo.2.1 1 = .ok (.getfield 177, 3) := by decide +kernel
theorem d_X8_undo_4 : decode mi_X8_undo.2.1 4 = .ok (.ifCond .ne 6, 3) := by decide +kernel
theorem d_X8_undo_7 : decode mi_X8_undo.2.1 7 = .ok (.bipush (-4), 2) := by decide +kernel
theorem d_X8_undo_9 : decode mi_X8_undo.2.1 9 = .ok (.ireturn, 1) := by decide +kernel
theorem d_X8_undo_10 : decode mi_X8_undo.2.1 10 = .ok (.aload_n 0, 1) := by decide +kernel
theorem d_X8_undo_11 : decode mi_X8_undo.2.1 11 = .ok (.getfield 71, 3) := by decide +kernel
theorem d_X8_undo_14 : decode mi_X8_undo.2.1 14 = .ok (.aload_n 0, 1) := by decide +kernel
theorem d_X8_undo_15 : decode mi_X8_undo.2.1 15 = .ok (.getfield 177, 3) := by decide +kernel
theorem d_X8_undo_18 : decode mi_X8_undo.2.1 18 = .ok (.iconst 1, 1) := by decide +kernel
theorem d_X8_undo_19 : decode mi_X8_undo.2.1 19 = .ok (.isub, 1) := by decide +kernel
theorem d_X8_undo_20 : decode mi_X8_undo.2.1 20 = .ok (.iaload, 1) := by decide +kernel
theorem d_X8_undo_21 : decode mi_X8_undo.2.1 21 = .ok (.istore_n 1, 1) := by decide +kernel
theorem d_X8_undo_22 : decode mi_X8_undo.2.1 22 = .ok (.iload_n 1, 1) := by decide +kernel
theorem d_X8_undo_23 : decode mi_X8_undo.2.1 23 = .ok (.iconst 2, 1) := by decide +kernel
theorem d_X8_undo_24 : decode mi_X8_undo.2.1 24 = .ok (.if_icmp .eq 19, 3) := by decide +kernel
theorem d_X8_undo_27 : decode mi_X8_undo.2.1 27 = .ok (.aload_n 0, 1) := by decide +kernel
theorem d_X8_undo_28 : decode mi_X8_undo.2.1 28 = .ok (.aload_n 0, 1) := by decide +kernel
theorem d_X8_undo_29 : decode mi_X8_undo.2.1 29 = .ok (.getfield 135, 3) := by decide +kernel
theorem d_X8_undo_32 : decode mi_X8_undo.2.1 32 = .ok (.iconst 1, 1) := by decide +kernel
theorem d_X8_undo_33 : decode mi_X8_undo.2.1 33 = .ok (.isub, 1) := by decide +kernel
theorem d_X8_undo_34 : decode mi_X8_undo.2.1 34 = .ok (.invokevirtual 180, 3) := by decide +kernel
theorem d_X8_undo_37 : decode mi_X8_undo.2.1 37 = .ok (.ifCond .eq 6, 3) := by decide +kernel
theorem d_X8_undo_40 : decode mi_X8_undo.2.1 40 = .ok (.bipush (-2), 2) := by decide +kernel
theorem d_X8_undo_42 : decode mi_X8_undo.2.1 42 = .ok (.ireturn, 1) := by decide +kernel
theorem d_X8_undo_43 : decode mi_X8_undo.2.1 43 = .ok (.aload_n 0, 1) := by decide +kernel
theorem d_X8_undo_44 : decode mi_X8_undo.2.1 44 = .ok (.dup, 1) := by decide +kernel
theorem d_X8_undo_45 : decode mi_X8_undo.2.1 45 = .ok (.getfield 177, 3) := by decide +kernel
theorem d_X8_undo_48 : decode mi_X8_undo.2.1 48 = .ok (.iconst 1, 1) := by decide +kernel
theorem d_X8_undo_49 : decode mi_X8_undo.2.1 49 = .ok (.isub, 1) := by decide +kernel
theorem d_X8_undo_50 : decode mi_X8_undo.2.1 50 = .ok (.putfield 177, 3) := by decide +kernel
theorem d_X8_undo_53 : decode mi_X8_undo.2.1 53 = .ok (.aload_n 0, 1) := by decide +kernel
theorem d_X8_undo_54 : decode mi_X8_undo.2.1 54 = .ok (.getfield 74, 3) := by decide +kernel
theorem d_X8_undo_57 : decode mi_X8_undo.2.1 57 = .ok (.aload_n 0, 1) := by decide +kernel
theorem d_X8_undo_58 : decode mi_X8_undo.2.1 58 = .ok (.getfield 177, 3) := by decide +kernel
theorem d_X8_undo_61 : decode mi_X8_undo.2.1 61 = .ok (.iaload, 1) := by decide +kernel
theorem d_X8_undo_62 : decode mi_X8_undo.2.1 62 = .ok (.istore_n 2, 1) := by decide +kernel
theorem d_X8_undo_63 : decode mi_X8_undo.2.1 63 = .ok (.iload_n 1, 1) := by decide +kernel
theorem d_X8_undo_64 : decode mi_X8_undo.2.1 64 = .ok (.iconst 2, 1) := by decide +kernel
theorem d_X8_undo_65 : decode mi_X8_undo.2.1 65 = .ok (.if_icmp .eq 33, 3) := by decide +kernel
theorem d_X8_undo_68 : decode mi_X8_undo.2.1 68 = .ok (.aload_n 0, 1) := by decide +kernel
theorem d_X8_undo_69 : decode mi_X8_undo.2.1 69 = .ok (.dup, 1) := by decide +kernel
theorem d_X8_undo_70 : decode mi_X8_undo.2.1 70 = .ok (.getfield 135, 3) := by decide +kernel
theorem d_X8_undo_73 : decode mi_X8_undo.2.1 73 = .ok (.iconst 1, 1) := by decide +kernel
theorem d_X8_undo_74 : decode mi_X8_undo.2.1 74 = .ok (.isub, 1) := by decide +kernel
theorem d_X8_undo_75 : decode mi_X8_undo.2.1 75 = .ok (.putfield 135, 3) := by decide +kernel
theorem d_X8_undo_78 : decode mi_X8_undo.2.1 78 = .ok (.aload_n 0, 1) := by decide +kernel
theorem d_X8_undo_79 : decode mi_X8_undo.2.1 79 = .ok (.getfield 28, 3) := by decide +kernel
theorem d_X8_undo_82 : decode mi_X8_undo.2.1 82 = .ok (.aload_n 0, 1) := by decide +kernel
theorem d_X8_undo_83 : decode mi_X8_undo.2.1 83 = .ok (.getfield 135, 3) := by decide +kernel
theorem d_X8_undo_86 : decode mi_X8_undo.2.1 86 = .ok (.iconst 0, 1) := by decide +kernel
theorem d_X8_undo_87 : decode mi_X8_undo.2.1 87 = .ok (.bastore, 1) := by decide +kernel
theorem d_X8_undo_88 : decode mi_X8_undo.2.1 88 = .ok (.aload_n 0, 1) := by decide +kernel
theorem d_X8_undo_89 : decode mi_X8_undo.2.1 89 = .ok (.getfield 41, 3) := by decide +kernel
theorem d_X8_undo_92 : decode mi_X8_undo.2.1 92 = .ok (.aload_n 0, 1) := by decide +kernel
theorem d_X8_undo_93 : decode mi_X8_undo.2.1 93 = .ok (.getfield 135, 3) := by decide +kernel
theorem d_X8_undo_96 : decode mi_X8_undo.2.1 96 = .ok (.iconst 0, 1) := by decide +kernel
theorem d_X8_undo_97 : decode mi_X8_undo.2.1 97 = .ok (.bastore, 1) := by decide +kernel
theorem d_X8_undo_98 : decode mi_X8_undo.2.1 98 = .ok (.iload_n 1, 1) := by decide +kernel
theorem d_X8_undo_99 : decode mi_X8_undo.2.1 99 = .ok (.iconst 1, 1) := by decide +kernel
theorem d_X8_undo_100 : decode mi_X8_undo.2.1 100 = .ok (.if_icmp .eq 49, 3) := by decide +kernel
theorem d_X8_undo_103 : decode mi_X8_undo.2.1 103 = .ok (.aload_n 0, 1) := by decide +kernel
theorem d_X8_undo_104 : decode mi_X8_undo.2.1 104 = .ok (.getfield 28, 3) := by decide +kernel
theorem d_X8_undo_107 : decode mi_X8_undo.2.1 107 = .ok (.iload_n 2, 1) := by decide +kernel
theorem d_X8_undo_108 : decode mi_X8_undo.2.1 108 = .ok (.iconst 1, 1) := by decide +kernel
theorem d_X8_undo_109 : decode mi_X8_undo.2.1 109 = .ok (.bastore, 1) := by decide +kernel
theorem d_X8_undo_110 : decode mi_X8_undo.2.1 110 = .ok (.iconst 0, 1) := by decide +kernel
theorem d_X8_undo_111 : decode mi_X8_undo.2.1 111 = .ok (.istore_n 3, 1) := by decide +kernel
theorem d_X8_undo_112 : decode mi_X8_undo.2.1 112 = .ok (.iload_n 3, 1) := by decide +kernel
theorem d_X8_undo_113 : decode mi_X8_undo.2.1 113 = .ok (.bipush 8, 2) := by decide +kernel
theorem d_X8_undo_115 : decode mi_X8_undo.2.1 115 = .ok (.if_icmp .ge 34, 3) := by decide +kernel
theorem d_X8_undo_118 : decode mi_X8_undo.2.1 118 = .ok (.aload_n 0, 1) := by decide +kernel
theorem d_X8_undo_119 : decode mi_X8_undo.2.1 119 = .ok (.getfield 32, 3) := by decide +kernel
theorem d_X8_undo_122 : decode mi_X8_undo.2.1 122 = .ok (.bipush 8, 2) := by decide +kernel
theorem d_X8_undo_124 : decode mi_X8_undo.2.1 124 = .ok (.iload_n 2, 1) := by decide +kernel
theorem d_X8_undo_125 : decode mi_X8_undo.2.1 125 = .ok (.imul, 1) := by decide +kernel
theorem d_X8_undo_126 : decode mi_X8_undo.2.1 126 = .ok (.iload_n 3, 1) := by decide +kernel
theorem d_X8_undo_127 : decode mi_X8_undo.2.1 127 = .ok (.iadd, 1) := by decide +kernel
theorem d_X8_undo_128 : decode mi_X8_undo.2.1 128 = .ok (.aload_n 0, 1) := by decide +kernel
theorem d_X8_undo_129 : decode mi_X8_undo.2.1 129 = .ok (.getfield 77, 3) := by decide +kernel
theorem d_X8_undo_132 : decode mi_X8_undo.2.1 132 = .ok (.bipush 8, 2) := by decide +kernel
theorem d_X8_undo_134 : decode mi_X8_undo.2.1 134 = .ok (.aload_n 0, 1) := by decide +kernel
theorem d_X8_undo_135 : decode mi_X8_undo.2.1 135 = .ok (.getfield 177, 3) := by decide +kernel
theorem d_X8_undo_138 : decode mi_X8_undo.2.1 138 = .ok (.imul, 1) := by decide +kernel
theorem d_X8_undo_139 : decode mi_X8_undo.2.1 139 = .ok (.iload_n 3, 1) := by decide +kernel
theorem d_X8_undo_140 : decode mi_X8_undo.2.1 140 = .ok (.iadd, 1) := by decide +kernel
theorem d_X8_undo_141 : decode mi_X8_undo.2.1 141 = .ok (.iaload, 1) := by decide +kernel
theorem d_X8_undo_142 : decode mi_X8_undo.2.1 142 = .ok (.iastore, 1) := by decide +kernel
theorem d_X8_undo_143 : decode mi_X8_undo.2.1 143 = .ok (.iinc 3 1, 3) := by decide +kernel
theorem d_X8_undo_146 : decode mi_X8_undo.2.1 146 = .ok (.goto (-34), 3) := by decide +kernel
theorem d_X8_undo_149 : decode mi_X8_undo.2.1 149 = .ok (.aload_n 0, 1) := by decide +kernel
theorem d_X8_undo_150 : decode mi_X8_undo.2.1 150 = .ok (.getfield 177, 3) := by decide +kernel
theorem d_X8_undo_153 : decode mi_X8_undo.2.1 153 = .ok (.ireturn, 1) := by decide +kernel
theorem fl_X8_41 : FL RX8 41 8 49 11 := ⟨RX8, TX8, rfl, by decide, rfl, by decide +kernel, in_8⟩
theorem fw_8_6 : FW 8 49 6 .int := ⟨RX8, TX8, tyX8, rfl, rfl, by decide +kernel, tyX8_ok, nmX8⟩
theorem cw_X8_180 : CV RX8 180 mi_X8_stands 1 := by unfold CV; decide +kernel
def f_X8_undo_112 : Nat → Int32 → Int32 → SS → Option (Int32 × SS)
  | 0, _, _, _ => none
  | n + 1, v2, v3, σ => if (8 : Int32) ≤ v3 then (some ((σ.1 25 0 23), σ)) else (chk (inr (((8 : Int32) * (σ.1 25 0 23)) + v3) 64) (chk (inr (((8 : Int32) * v2) + v3) 480) (lt_ (up σ 48 0 (ix (((8 : Int32) * v2) + v3)) (σ.1 66 0 (ix (((8 : Int32) * (σ.1 25 0 23)) + v3)))) (fun s1 => lt_ (v3 + (1 : Int32)) (fun x2 => f_X8_undo_112 n v2 x2 s1)))))
set_option maxRecDepth 20000 in
theorem t_X8_undo_112 {d : Nat} {X : MX} {Y : MY} {b : Nat × Nat} {r : Int32} {σ' : SS} : ∀ (n : Nat) (v2 : Int32) (v3 : Int32) (σ : SS), f_X8_undo_112 n v2 v3 σ = some (r, σ') → WM (d + 1) X Y b mi_X8_undo 112 [some (vR 25 0), none, some (vI v2), some (vI v3)] [] σ (some (vI r), σ') := by
  intro n
  induction n with
  | zero => intro _ _ σ h; cases h
  | succ n ih =>
    intro v2 v3 σ h
    rw [f_X8_undo_112] at h
    refine r_iload_n (pc' := 113) d_X8_undo_112 rfl rfl rfl ?_
    refine r_bipush (pc' := 115) d_X8_undo_113 cb_8 rfl ?_
    refine r_icmp_ge (pcT := 149) (pc' := 118) d_X8_undo_115 rfl rfl h (fun _ h => ?_) (fun _ h => ?_)
    · refine r_aload_n (pc' := 150) d_X8_undo_149 rfl rfl rfl ?_
      refine r_get (v := vI _) (pc' := 153) fl_X8_177 d_X8_undo_150 rfl rfl (fun _ => trivial) rfl ?_
      exact r_iret d_X8_undo_153 rfl h
    · refine r_aload_n (pc' := 119) d_X8_undo_118 rfl rfl rfl ?_
      refine r_get (v := vR 48 _) (pc' := 122) fl_X8_32 d_X8_undo_119 rfl rfl (fun g => Or.inl ⟨rfl, g.2⟩) rfl ?_
      refine r_bipush (pc' := 124) d_X8_undo_122 cb_8 rfl ?_
      refine r_iload_n (pc' := 125) d_X8_undo_124 rfl rfl rfl ?_
      refine r_imul (pc' := 126) d_X8_undo_125 rfl ?_
      refine r_iload_n (pc' := 127) d_X8_undo_126 rfl rfl rfl ?_
      refine r_iadd (pc' := 128) d_X8_undo_127 rfl ?_
      refine r_aload_n (pc' := 129) d_X8_undo_128 rfl rfl rfl ?_
      refine r_get (v := vR 66 _) (pc' := 132) fl_X8_77 d_X8_undo_129 rfl rfl (fun g => Or.inl ⟨rfl, g.2⟩) rfl ?_
      refine r_bipush (pc' := 134) d_X8_undo_132 cb_8 rfl ?_
      refine r_aload_n (pc' := 135) d_X8_undo_134 rfl rfl rfl ?_
      refine r_get (v := vI _) (pc' := 138) fl_X8_177 d_X8_undo_135 rfl rfl (fun _ => trivial) rfl ?_
      refine r_imul (pc' := 139) d_X8_undo_138 rfl ?_
      refine r_iload_n (pc' := 140) d_X8_undo_139 rfl rfl rfl ?_
      refine r_iadd (pc' := 141) d_X8_undo_140 rfl ?_
      refine r_iaload (pc' := 142) d_X8_undo_141 rfl (fun _ => rfl) rfl h (fun h => ?_)
      refine l_iastore (pc' := 143) d_X8_undo_142 rfl (fun _ => rfl) (by decide) (by decide) (fun _ => rfl) rfl h (fun s1 h => ?_)
      refine l_iinc (pc' := 146) d_X8_undo_143 rfl ci_1 rfl rfl rfl h (fun x2 h => ?_)
      refine r_goto (pc' := 112) d_X8_undo_146 rfl ?_
      exact WM.drop [] rfl (ih _ _ _ h)
def f_X8_undo_98 (v1 : Int32) (v2 : Int32) (σ : SS) : Option (Int32 × SS) := if v1 = (1 : Int32) then (some ((σ.1 25 0 23), σ)) else (chk (inr v2 60) (lt_ (up σ 47 0 (ix v2) (1 : Int32)) (fun s1 => f_X8_undo_112 FU v2 (0 : Int32) s1)))
set_option maxRecDepth 20000 in
theorem t_X8_undo_98 {d : Nat} {X : MX} {Y : MY} {b : Nat × Nat} {r : Int32} {σ' : SS} {v1 : Int32} {v2 : Int32} {σ : SS} (h : f_X8_undo_98 v1 v2 σ = some (r, σ')) : WM (d + 1) X Y b mi_X8_undo 98 [some (vR 25 0), some (vI v1), some (vI v2), none] [] σ (some (vI r), σ') := by
  rw [f_X8_undo_98] at h
  refine r_iload_n (pc' := 99) d_X8_undo_98 rfl rfl rfl ?_
  refine r_iconst (pc' := 100) d_X8_undo_99 ci_1 rfl ?_
  refine r_icmp_eq (pcT := 149) (pc' := 103) d_X8_undo_100 rfl rfl h (fun _ h => ?_) (fun _ h => ?_)
  · refine r_aload_n (pc' := 150) d_X8_undo_149 rfl rfl rfl ?_
    refine r_get (v := vI _) (pc' := 153) fl_X8_177 d_X8_undo_150 rfl rfl (fun _ => trivial) rfl ?_
    exact r_iret d_X8_undo_153 rfl h
  · refine r_aload_n (pc' := 104) d_X8_undo_103 rfl rfl rfl ?_
    refine r_get (v := vR 47 _) (pc' := 107) fl_X8_28 d_X8_undo_104 rfl rfl (fun g => Or.inl ⟨rfl, g.2⟩) rfl ?_
    refine r_iload_n (pc' := 108) d_X8_undo_107 rfl rfl rfl ?_
    refine r_iconst (pc' := 109) d_X8_undo_108 ci_1 rfl ?_
    refine l_bastore (pc' := 110) d_X8_undo_109 rfl (fun _ => rfl) (by decide) (by decide) (fun _ => rfl) (Or.inr rfl) rfl h (fun s1 h => ?_)
    refine r_iconst (pc' := 111) d_X8_undo_110 ci_0 rfl ?_
    refine r_istore_n (pc' := 112) d_X8_undo_111 rfl rfl rfl rfl ?_
    exact WM.drop [1] rfl (t_X8_undo_112 _ _ _ _ h)
def f_X8_undo_43 (v1 : Int32) (σ : SS) : Option (Int32 × SS) := lt_ (up σ 25 0 23 ((σ.1 25 0 23) - (1 : Int32))) (fun s1 => chk (inr (s1.1 25 0 23) 8) (lt_ (s1.1 65 0 (ix (s1.1 25 0 23))) (fun x2 => if v1 = (2 : Int32) then (f_X8_undo_98 v1 x2 s1) else (lt_ (up s1 25 0 6 ((s1.1 25 0 6) - (1 : Int32))) (fun s3 => chk (inr (s3.1 25 0 6) 60) (lt_ (up s3 47 0 (ix (s3.1 25 0 6)) (0 : Int32)) (fun s4 => chk (inr (s4.1 25 0 6) 60) (lt_ (up s4 51 0 (ix (s4.1 25 0 6)) (0 : Int32)) (fun s5 => f_X8_undo_98 v1 x2 s5)))))))))
set_option maxRecDepth 20000 in
theorem t_X8_undo_43 {d : Nat} {X : MX} {Y : MY} {b : Nat × Nat} {r : Int32} {σ' : SS} {v1 : Int32} {σ : SS} (h : f_X8_undo_43 v1 σ = some (r, σ')) : WM (d + 1) X Y b mi_X8_undo 43 [some (vR 25 0), some (vI v1), none, none] [] σ (some (vI r), σ') := by
  rw [f_X8_undo_43] at h
  refine r_aload_n (pc' := 44) d_X8_undo_43 rfl rfl rfl ?_
  refine r_dup (pc' := 45) d_X8_undo_44 rfl rfl ?_
  refine r_get (v := vI _) (pc' := 48) fl_X8_177 d_X8_undo_45 rfl rfl (fun _ => trivial) rfl ?_
  refine r_iconst (pc' := 49) d_X8_undo_48 ci_1 rfl ?_
  refine r_isub (pc' := 50) d_X8_undo_49 rfl ?_
  refine l_put (k := 23) (pc' := 53) fl_X8_177 fw_8_23 rfl rfl d_X8_undo_50 rfl (by decide) (by decide) rfl rfl h (fun s1 h => ?_)
  refine r_aload_n (pc' := 54) d_X8_undo_53 rfl rfl rfl ?_
  refine r_get (v := vR 65 _) (pc' := 57) fl_X8_74 d_X8_undo_54 rfl rfl (fun g => Or.inl ⟨rfl, g.2⟩) rfl ?_
  refine r_aload_n (pc' := 58) d_X8_undo_57 rfl rfl rfl ?_
  refine r_get (v := vI _) (pc' := 61) fl_X8_177 d_X8_undo_58 rfl rfl (fun _ => trivial) rfl ?_
  refine r_iaload (pc' := 62) d_X8_undo_61 rfl (fun _ => rfl) rfl h (fun h => ?_)
  refine l_istore_n (pc' := 63) d_X8_undo_62 rfl rfl rfl rfl h (fun x2 h => ?_)
  refine r_iload_n (pc' := 64) d_X8_undo_63 rfl rfl rfl ?_
  refine r_iconst (pc' := 65) d_X8_undo_64 ci_2 rfl ?_
  refine r_icmp_eq (pcT := 98) (pc' := 68) d_X8_undo_65 rfl rfl h (fun _ h => ?_) (fun _ h => ?_)
  · exact WM.drop [] rfl (t_X8_undo_98 h)
  · refine r_aload_n (pc' := 69) d_X8_undo_68 rfl rfl rfl ?_
    refine r_dup (pc' := 70) d_X8_undo_69 rfl rfl ?_
    refine r_get (v := vI _) (pc' := 73) fl_X8_135 d_X8_undo_70 rfl rfl (fun _ => trivial) rfl ?_
    refine r_iconst (pc' := 74) d_X8_undo_73 ci_1 rfl ?_
    refine r_isub (pc' := 75) d_X8_undo_74 rfl ?_
    refine l_put (k := 6) (pc' := 78) fl_X8_135 fw_8_6 rfl rfl d_X8_undo_75 rfl (by decide) (by decide) rfl rfl h (fun s3 h => ?_)
    refine r_aload_n (pc' := 79) d_X8_undo_78 rfl rfl rfl ?_
    refine r_get (v := vR 47 _) (pc' := 82) fl_X8_28 d_X8_undo_79 rfl rfl (fun g => Or.inl ⟨rfl, g.2⟩) rfl ?_
    refine r_aload_n (pc' := 83) d_X8_undo_82 rfl rfl rfl ?_
    refine r_get (v := vI _) (pc' := 86) fl_X8_135 d_X8_undo_83 rfl rfl (fun _ => trivial) rfl ?_
    refine r_iconst (pc' := 87) d_X8_undo_86 ci_0 rfl ?_
    refine l_bastore (pc' := 88) d_X8_undo_87 rfl (fun _ => rfl) (by decide) (by decide) (fun _ => rfl) (Or.inl rfl) rfl h (fun s4 h => ?_)
    refine r_aload_n (pc' := 89) d_X8_undo_88 rfl rfl rfl ?_
    refine r_get (v := vR 51 _) (pc' := 92) fl_X8_41 d_X8_undo_89 rfl rfl (fun g => Or.inl ⟨rfl, g.2⟩) rfl ?_
    refine r_aload_n (pc' := 93) d_X8_undo_92 rfl rfl rfl ?_
    refine r_get (v := vI _) (pc' := 96) fl_X8_135 d_X8_undo_93 rfl rfl (fun _ => trivial) rfl ?_
    refine r_iconst (pc' := 97) d_X8_undo_96 ci_0 rfl ?_
    refine l_bastore (pc' := 98) d_X8_undo_97 rfl (fun _ => rfl) (by decide) (by decide) (fun _ => rfl) (Or.inl rfl) rfl h (fun s5 h => ?_)
    exact WM.drop [] rfl (t_X8_undo_98 h)
def f_X8_undo (σ : SS) : Option (Int32 × SS) := if (σ.1 25 0 23) = 0 then (some ((-4 : Int32), σ)) else (chk (inr ((σ.1 25 0 23) - (1 : Int32)) 8) (lt_ (σ.1 64 0 (ix ((σ.1 25 0 23) - (1 : Int32)))) (fun x1 => if x1 = (2 : Int32) then (f_X8_undo_43 x1 σ) else (cal (f_X8_stands ((σ.1 25 0 6) - (1 : Int32)) σ) (fun x3 s2 => if x3 = 0 then (f_X8_undo_43 x1 s2) else (some ((-2 : Int32), s2)))))))
set_option maxRecDepth 20000 in
theorem t_X8_undo {d : Nat} {b : Nat × Nat} {σ : SS} {r : Int32} {σ' : SS} (h : f_X8_undo σ = some (r, σ')) : MM (d + 1) b mi_X8_undo [vR 25 0] σ (some (vI r), σ') := by
  refine MM.of (lv := [some (vR 25 0), none, none, none]) (by decide +kernel) rfl rfl (fun X Y => ?_)
  rw [f_X8_undo] at h
  refine r_aload_n (pc' := 1) d_X8_undo_0 rfl rfl rfl ?_
  refine r_get (v := vI _) (pc' := 4) fl_X8_177 d_X8_undo_1 rfl rfl (fun _ => trivial) rfl ?_
  refine r_if_ne (pcT := 10) (pc' := 7) d_X8_undo_4 rfl rfl h (fun _ h => ?_) (fun _ h => ?_)
  · refine r_bipush (pc' := 9) d_X8_undo_7 cb_m4 rfl ?_
    exact r_iret d_X8_undo_9 rfl h
  · refine r_aload_n (pc' := 11) d_X8_undo_10 rfl rfl rfl ?_
    refine r_get (v := vR 64 _) (pc' := 14) fl_X8_71 d_X8_undo_11 rfl rfl (fun g => Or.inl ⟨rfl, g.2⟩) rfl ?_
    refine r_aload_n (pc' := 15) d_X8_undo_14 rfl rfl rfl ?_
    refine r_get (v := vI _) (pc' := 18) fl_X8_177 d_X8_undo_15 rfl rfl (fun _ => trivial) rfl ?_
    refine r_iconst (pc' := 19) d_X8_undo_18 ci_1 rfl ?_
    refine r_isub (pc' := 20) d_X8_undo_19 rfl ?_
    refine r_iaload (pc' := 21) d_X8_undo_20 rfl (fun _ => rfl) rfl h (fun h => ?_)
    refine l_istore_n (pc' := 22) d_X8_undo_21 rfl rfl rfl rfl h (fun x1 h => ?_)
    refine r_iload_n (pc' := 23) d_X8_undo_22 rfl rfl rfl ?_
    refine r_iconst (pc' := 24) d_X8_undo_23 ci_2 rfl ?_
    refine r_icmp_eq (pcT := 43) (pc' := 27) d_X8_undo_24 rfl rfl h (fun _ h => ?_) (fun _ h => ?_)
    · exact WM.drop [] rfl (t_X8_undo_43 h)
    · refine r_aload_n (pc' := 28) d_X8_undo_27 rfl rfl rfl ?_
      refine r_aload_n (pc' := 29) d_X8_undo_28 rfl rfl rfl ?_
      refine r_get (v := vI _) (pc' := 32) fl_X8_135 d_X8_undo_29 rfl rfl (fun _ => trivial) rfl ?_
      refine r_iconst (pc' := 33) d_X8_undo_32 ci_1 rfl ?_
      refine r_isub (pc' := 34) d_X8_undo_33 rfl ?_
      refine v1_i (mc := mi_X8_stands) (bc := (0, 0)) (b' := _) (pc' := 37) cw_X8_180 d_X8_undo_34 rfl rfl rfl (Nat.zero_add _).symm (Nat.zero_add _).symm rfl h (fun _ _ e => t_X8_stands e) (fun x3 s2 h => ?_)
      refine r_if_eq (pcT := 43) (pc' := 40) d_X8_undo_37 rfl rfl h (fun _ h => ?_) (fun _ h => ?_)
      · exact WM.drop [] rfl (t_X8_undo_43 h)
      · refine r_bipush (pc' := 42) d_X8_undo_40 cb_m2 rfl ?_
        exact r_iret d_X8_undo_42 rfl h
/-! OctagonYardModel.block(III)I -/
def mi_X8_block : MI := (yX8_block, cX8_block, 6, (some .int))
theorem d_X8_block_0 : decode mi_X8_block.2.1 0 = .ok (.iload_n 1, 1) := by decide +kernel
theorem d_X8_block_1 : decode mi_X8_block.2.1 1 = .ok (.i2l, 1) := by decide +kernel
theorem d_X8_block_2 : decode mi_X8_block.2.1 2 = .ok (.lconst 1, 1) := by decide +kernel
theorem d_X8_block_3 : decode mi_X8_block.2.1 3 = .ok (.ldc2_w 184, 3) := by decide +kernel
theorem d_X8_block_6 : decode mi_X8_block.2.1 6 = .ok (.invokestatic 139, 3) := by decide +kernel
theorem d_X8_block_9 : decode mi_X8_block.2.1 9 = .ok (.ifCond .eq 27, 3) := by decide +kernel
theorem d_X8_block_12 : decode mi_X8_block.2.1 12 = .ok (.iload_n 2, 1) := by decide +kernel
theorem d_X8_block_13 : decode mi_X8_block.2.1 13 = .ok (.i2l, 1) := by decide +kernel
theorem d_X8_block_14 : decode mi_X8_block.2.1 14 = .ok (.lconst 1, 1) := by decide +kernel
theorem d_X8_block_15 : decode mi_X8_block.2.1 15 = .ok (.ldc2_w 184, 3) := by decide +kernel
theorem d_X8_block_18 : decode mi_X8_block.2.1 18 = .ok (.invokestatic 139, 3) := by decide +kernel
theorem d_X8_block_21 : decode mi_X8_block.2.1 21 = .ok (.ifCond .eq 15, 3) := by decide +kernel
theorem d_X8_block_24 : decode mi_X8_block.2.1 24 = .ok (.iload_n 3, 1) := by decide +kernel
theorem d_X8_block_25 : decode mi_X8_block.2.1 25 = .ok (.i2l, 1) := by decide +kernel
theorem d_X8_block_26 : decode mi_X8_block.2.1 26 = .ok (.lconst 1, 1) := by decide +kernel
theorem d_X8_block_27 : decode mi_X8_block.2.1 27 = .ok (.ldc2_w 184, 3) := by decide +kernel
theorem d_X8_block_30 : decode mi_X8_block.2.1 30 = .ok (.invokestatic 139, 3) := by decide +kernel
theorem d_X8_block_33 : decode mi_X8_block.2.1 33 = .ok (.ifCond .ne 5, 3) := by decide +kernel
theorem d_X8_block_36 : decode mi_X8_block.2.1 36 = .ok (.iconst (-1), 1) := by decide +kernel
theorem d_X8_block_37 : decode mi_X8_block.2.1 37 = .ok (.ireturn, 1) := by decide +kernel
theorem d_X8_block_38 : decode mi_X8_block.2.1 38 = .ok (.aload_n 0, 1) := by decide +kernel
theorem d_X8_block_39 : decode mi_X8_block.2.1 39 = .ok (.getfield 135, 3) := by decide +kernel
theorem d_X8_block_42 : decode mi_X8_block.2.1 42 = .ok (.bipush 60, 2) := by decide +kernel
theorem d_X8_block_44 : decode mi_X8_block.2.1 44 = .ok (.if_icmp .ne 6, 3) := by decide +kernel
theorem d_X8_block_47 : decode mi_X8_block.2.1 47 = .ok (.bipush (-3), 2) := by decide +kernel
theorem d_X8_block_49 : decode mi_X8_block.2.1 49 = .ok (.ireturn, 1) := by decide +kernel
theorem d_X8_block_50 : decode mi_X8_block.2.1 50 = .ok (.aload_n 0, 1) := by decide +kernel
theorem d_X8_block_51 : decode mi_X8_block.2.1 51 = .ok (.getfield 135, 3) := by decide +kernel
theorem d_X8_block_54 : decode mi_X8_block.2.1 54 = .ok (.istore 4, 2) := by decide +kernel
theorem d_X8_block_56 : decode mi_X8_block.2.1 56 = .ok (.aload_n 0, 1) := by decide +kernel
theorem d_X8_block_57 : decode mi_X8_block.2.1 57 = .ok (.iconst 1, 1) := by decide +kernel
theorem d_X8_block_58 : decode mi_X8_block.2.1 58 = .ok (.iload 4, 2) := by decide +kernel
theorem d_X8_block_60 : decode mi_X8_block.2.1 60 = .ok (.invokevirtual 186, 3) := by decide +kernel
theorem d_X8_block_63 : decode mi_X8_block.2.1 63 = .ok (.aload_n 0, 1) := by decide +kernel
theorem d_X8_block_64 : decode mi_X8_block.2.1 64 = .ok (.dup, 1) := by decide +kernel
theorem d_X8_block_65 : decode mi_X8_block.2.1 65 = .ok (.getfield 135, 3) := by decide +kernel
theorem d_X8_block_68 : decode mi_X8_block.2.1 68 = .ok (.iconst 1, 1) := by decide +kernel
theorem d_X8_block_69 : decode mi_X8_block.2.1 69 = .ok (.iadd, 1) := by decide +kernel
theorem d_X8_block_70 : decode mi_X8_block.2.1 70 = .ok (.putfield 135, 3) := by decide +kernel
theorem d_X8_block_73 : decode mi_X8_block.2.1 73 = .ok (.aload_n 0, 1) := by decide +kernel
theorem d_X8_block_74 : decode mi_X8_block.2.1 74 = .ok (.getfield 28, 3) := by decide +kernel
theorem d_X8_block_77 : decode mi_X8_block.2.1 77 = .ok (.iload 4, 2) := by decide +kernel
theorem d_X8_block_79 : decode mi_X8_block.2.1 79 = .ok (.iconst 1, 1) := by decide +kernel
theorem d_X8_block_80 : decode mi_X8_block.2.1 80 = .ok (.bastore, 1) := by decide +kernel
theorem d_X8_block_81 : decode mi_X8_block.2.1 81 = .ok (.aload_n 0, 1) := by decide +kernel
theorem d_X8_block_82 : decode mi_X8_block.2.1 82 = .ok (.getfield 41, 3) := by decide +kernel
theorem d_X8_block_85 : decode mi_X8_block.2.1 85 = .ok (.iload 4, 2) := by decide +kernel
theorem d_X8_block_87 : decode mi_X8_block.2.1 87 = .ok (.iconst 1, 1) := by decide +kernel
theorem d_X8_block_88 : decode mi_X8_block.2.1 88 = .ok (.bastore, 1) := by decide +kernel
theorem d_X8_block_89 : decode mi_X8_block.2.1 89 = .ok (.aload_n 0, 1) := by decide +kernel
theorem d_X8_block_90 : decode mi_X8_block.2.1 90 = .ok (.getfield 44, 3) := by decide +kernel
theorem d_X8_block_93 : decode mi_X8_block.2.1 93 = .ok (.iload 4, 2) := by decide +kernel
theorem d_X8_block_95 : decode mi_X8_block.2.1 95 = .ok (.bipush 8, 2) := by decide +kernel
theorem d_X8_block_97 : decode mi_X8_block.2.1 97 = .ok (.iload_n 1, 1) := by decide +kernel
theorem d_X8_block_98 : decode mi_X8_block.2.1 98 = .ok (.imul, 1) := by decide +kernel
theorem d_X8_block_99 : decode mi_X8_block.2.1 99 = .ok (.iload_n 2, 1) := by decide +kernel
theorem d_X8_block_100 : decode mi_X8_block.2.1 100 = .ok (.imul, 1) := by decide +kernel
theorem d_X8_block_101 : decode mi_X8_block.2.1 101 = .ok (.iastore, 1) := by decide +kernel
theorem d_X8_block_102 : decode mi_X8_block.2.1 102 = .ok (.aload_n 0, 1) := by decide +kernel
theorem d_X8_block_103 : decode mi_X8_block.2.1 103 = .ok (.getfield 38, 3) := by decide +kernel
theorem d_X8_block_106 : decode mi_X8_block.2.1 106 = .ok (.iload 4, 2) := by decide +kernel
theorem d_X8_block_108 : decode mi_X8_block.2.1 108 = .ok (.iload 4, 2) := by decide +kernel
theorem d_X8_block_110 : decode mi_X8_block.2.1 110 = .ok (.iastore, 1) := by decide +kernel
theorem d_X8_block_111 : decode mi_X8_block.2.1 111 = .ok (.aload_n 0, 1) := by decide +kernel
theorem d_X8_block_112 : decode mi_X8_block.2.1 112 = .ok (.getfield 35, 3) := by decide +kernel
theorem d_X8_block_115 : decode mi_X8_block.2.1 115 = .ok (.iload 4, 2) := by decide +kernel
theorem d_X8_block_117 : decode mi_X8_block.2.1 117 = .ok (.iload_n 3, 1) := by decide +kernel
theorem d_X8_block_118 : decode mi_X8_block.2.1 118 = .ok (.iastore, 1) := by decide +kernel
theorem d_X8_block_119 : decode mi_X8_block.2.1 119 = .ok (.iconst 0, 1) := by decide +kernel
theorem d_X8_block_120 : decode mi_X8_block.2.1 120 = .ok (.istore 5, 2) := by decide +kernel
theorem d_X8_block_122 : decode mi_X8_block.2.1 122 = .ok (.iload 5, 2) := by decide +kernel
theorem d_X8_block_124 : decode mi_X8_block.2.1 124 = .ok (.bipush 8, 2) := by decide +kernel
theorem d_X8_block_126 : decode mi_X8_block.2.1 126 = .ok (.if_icmp .ge 47, 3) := by decide +kernel
theorem d_X8_block_129 : decode mi_X8_block.2.1 129 = .ok (.aload_n 0, 1) := by decide +kernel
theorem d_X8_block_130 : decode mi_X8_block.2.1 130 = .ok (.getfield 47, 3) := by decide +kernel
theorem d_X8_block_133 : decode mi_X8_block.2.1 133 = .ok (.iload 5, 2) := by decide +kernel
theorem d_X8_block_135 : decode mi_X8_block.2.1 135 = .ok (.aload_n 0, 1) := by decide +kernel
theorem d_X8_block_136 : decode mi_X8_block.2.1 136 = .ok (.getfield 7, 3) := by decide +kernel
theorem d_X8_block_139 : decode mi_X8_block.2.1 139 = .ok (.iload 5, 2) := by decide +kernel
theorem d_X8_block_141 : decode mi_X8_block.2.1 141 = .ok (.iaload, 1) := by decide +kernel
theorem d_X8_block_142 : decode mi_X8_block.2.1 142 = .ok (.ifCond .le 7, 3) := by decide +kernel
theorem d_X8_block_145 : decode mi_X8_block.2.1 145 = .ok (.iload_n 1, 1) := by decide +kernel
theorem d_X8_block_146 : decode mi_X8_block.2.1 146 = .ok (.goto 4, 3) := by decide +kernel
theorem d_X8_block_149 : decode mi_X8_block.2.1 149 = .ok (.iconst 0, 1) := by decide +kernel
theorem d_X8_block_150 : decode mi_X8_block.2.1 150 = .ok (.aload_n 0, 1) := by decide +kernel
theorem d_X8_block_151 : decode mi_X8_block.2.1 151 = .ok (.getfield 13, 3) := by decide +kernel
theorem d_X8_block_154 : decode mi_X8_block.2.1 154 = .ok (.iload 5, 2) := by decide +kernel
theorem d_X8_block_156 : decode mi_X8_block.2.1 156 = .ok (.iaload, 1) := by decide +kernel
theorem d_X8_block_157 : decode mi_X8_block.2.1 157 = .ok (.ifCond .le 7, 3) := by decide +kernel
theorem d_X8_block_160 : decode mi_X8_block.2.1 160 = .ok (.iload_n 2, 1) := by decide +kernel
theorem d_X8_block_161 : decode mi_X8_block.2.1 161 = .ok (.goto 4, 3) := by decide +kernel
theorem d_X8_block_164 : decode mi_X8_block.2.1 164 = .ok (.iconst 0, 1) := by decide +kernel
theorem d_X8_block_165 : decode mi_X8_block.2.1 165 = .ok (.iadd, 1) := by decide +kernel
theorem d_X8_block_166 : decode mi_X8_block.2.1 166 = .ok (.iastore, 1) := by decide +kernel
theorem d_X8_block_167 : decode mi_X8_block.2.1 167 = .ok (.iinc 5 1, 3) := by decide +kernel
theorem d_X8_block_170 : decode mi_X8_block.2.1 170 = .ok (.goto (-48), 3) := by decide +kernel
theorem d_X8_block_173 : decode mi_X8_block.2.1 173 = .ok (.aload_n 0, 1) := by decide +kernel
theorem d_X8_block_174 : decode mi_X8_block.2.1 174 = .ok (.iload 4, 2) := by decide +kernel
theorem d_X8_block_176 : decode mi_X8_block.2.1 176 = .ok (.invokevirtual 189, 3) := by decide +kernel
theorem d_X8_block_179 : decode mi_X8_block.2.1 179 = .ok (.iload 4, 2) := by decide +kernel
theorem d_X8_block_181 : decode mi_X8_block.2.1 181 = .ok (.ireturn, 1) := by decide +kernel
theorem fl_X8_35 : FL RX8 35 8 49 9 := ⟨RX8, TX8, rfl, by decide, rfl, by decide +kernel, in_8⟩
theorem fl_X8_38 : FL RX8 38 8 49 10 := ⟨RX8, TX8, rfl, by decide, rfl, by decide +kernel, in_8⟩
theorem fl_X8_44 : FL RX8 44 8 49 12 := ⟨RX8, TX8, rfl, by decide, rfl, by decide +kernel, in_8⟩
theorem k_X8_184 : Cond.constantLong RX8 184 (1000) ∈ mtbl := by decide +kernel
theorem cw_X8_186 : CV RX8 186 mi_X8_keep 2 := by unfold CV; decide +kernel
theorem cw_X8_189 : CV RX8 189 mi_X8_keeps 1 := by unfold CV; decide +kernel
def f_X8_block_173 (v4 : Int32) (σ : SS) : Option (Int32 × SS) := cal (f_X8_keeps v4 σ) (fun _ s1 => some (v4, s1))
set_option maxRecDepth 20000 in
theorem t_X8_block_173 {d : Nat} {X : MX} {Y : MY} {b : Nat × Nat} {r : Int32} {σ' : SS} {v4 : Int32} {σ : SS} (h : f_X8_block_173 v4 σ = some (r, σ')) : WM (d + 4) X Y b mi_X8_block 173 [some (vR 25 0), none, none, none, some (vI v4), none] [] σ (some (vI r), σ') := by
  rw [f_X8_block_173] at h
  refine r_aload_n (pc' := 174) d_X8_block_173 rfl rfl rfl ?_
  refine r_iload (pc' := 176) d_X8_block_174 rfl rfl ?_
  refine v1_v (mc := mi_X8_keeps) (bc := (0, 0)) (b' := _) (pc' := 179) cw_X8_189 d_X8_block_176 rfl rfl rfl (Nat.zero_add _).symm (Nat.zero_add _).symm rfl h (fun _ _ e => t_X8_keeps e) (fun _ s1 h => ?_)
  refine r_iload (pc' := 181) d_X8_block_179 rfl rfl ?_
  exact r_iret d_X8_block_181 rfl h
def f_X8_block_165 (K122 : Int32 → Int32 → Int32 → Int32 → SS → Option (Int32 × SS)) (v1 : Int32) (v2 : Int32) (v4 : Int32) (v5 : Int32) (u1 : Int32) (u2 : Int32) (u3 : Int32) (σ : SS) : Option (Int32 × SS) := chk (inr u1 8) (lt_ (up σ 53 0 (ix u1) (u2 + u3)) (fun s1 => lt_ (v5 + (1 : Int32)) (fun x2 => K122 v1 v2 v4 x2 s1)))
set_option maxRecDepth 20000 in
theorem t_X8_block_165 {d : Nat} {X : MX} {Y : MY} {b : Nat × Nat} {r : Int32} {σ' : SS} {K122 : Int32 → Int32 → Int32 → Int32 → SS → Option (Int32 × SS)} {v1 : Int32} {v2 : Int32} {v4 : Int32} {v5 : Int32} {u1 : Int32} {u2 : Int32} {u3 : Int32} (hK122 : ∀ (v1 : Int32) (v2 : Int32) (v4 : Int32) (v5 : Int32) (σ : SS), K122 v1 v2 v4 v5 σ = some (r, σ') → WM (d + 4) X Y b mi_X8_block 122 [some (vR 25 0), some (vI v1), some (vI v2), none, some (vI v4), some (vI v5)] [] σ (some (vI r), σ')) {σ : SS} (h : f_X8_block_165 K122 v1 v2 v4 v5 u1 u2 u3 σ = some (r, σ')) : WM (d + 4) X Y b mi_X8_block 165 [some (vR 25 0), some (vI v1), some (vI v2), none, some (vI v4), some (vI v5)] [vI u3, vI u2, vI u1, vR 53 0] σ (some (vI r), σ') := by
  rw [f_X8_block_165] at h
  refine r_iadd (pc' := 166) d_X8_block_165 rfl ?_
  refine l_iastore (pc' := 167) d_X8_block_166 rfl (fun _ => rfl) (by decide) (by decide) (fun _ => rfl) rfl h (fun s1 h => ?_)
  refine l_iinc (pc' := 170) d_X8_block_167 rfl ci_1 rfl rfl rfl h (fun x2 h => ?_)
  refine r_goto (pc' := 122) d_X8_block_170 rfl ?_
  exact WM.drop [] rfl (hK122 _ _ _ _ _ h)
def f_X8_block_150 (K122 : Int32 → Int32 → Int32 → Int32 → SS → Option (Int32 × SS)) (v1 : Int32) (v2 : Int32) (v4 : Int32) (v5 : Int32) (u1 : Int32) (u2 : Int32) (σ : SS) : Option (Int32 × SS) := chk (inr v5 8) (if (σ.1 41 0 (ix v5)) ≤ 0 then (f_X8_block_165 K122 v1 v2 v4 v5 u1 u2 (0 : Int32) σ) else (f_X8_block_165 K122 v1 v2 v4 v5 u1 u2 v2 σ))
set_option maxRecDepth 20000 in
theorem t_X8_block_150 {d : Nat} {X : MX} {Y : MY} {b : Nat × Nat} {r : Int32} {σ' : SS} {K122 : Int32 → Int32 → Int32 → Int32 → SS → Option (Int32 × SS)} {v1 : Int32} {v2 : Int32} {v4 : Int32} {v5 : Int32} {u1 : Int32} {u2 : Int32} (hK122 : ∀ (v1 : Int32) (v2 : Int32) (v4 : Int32) (v5 : Int32) (σ : SS), K122 v1 v2 v4 v5 σ = some (r, σ') → WM (d + 4) X Y b mi_X8_block 122 [some (vR 25 0), some (vI v1), some (vI v2), none, some (vI v4), some (vI v5)] [] σ (some (vI r), σ')) {σ : SS} (h : f_X8_block_150 K122 v1 v2 v4 v5 u1 u2 σ = some (r, σ')) : WM (d + 4) X Y b mi_X8_block 150 [some (vR 25 0), some (vI v1), some (vI v2), none, some (vI v4), some (vI v5)] [vI u2, vI u1, vR 53 0] σ (some (vI r), σ') := by
  rw [f_X8_block_150] at h
  refine r_aload_n (pc' := 151) d_X8_block_150 rfl rfl rfl ?_
  refine r_get (v := vR 41 _) (pc' := 154) fl_X8_13 d_X8_block_151 rfl rfl (fun g => Or.inl ⟨rfl, g.2⟩) rfl ?_
  refine r_iload (pc' := 156) d_X8_block_154 rfl rfl ?_
  refine r_iaload (pc' := 157) d_X8_block_156 rfl (fun _ => rfl) rfl h (fun h => ?_)
  refine r_if_le (pcT := 164) (pc' := 160) d_X8_block_157 rfl rfl h (fun _ h => ?_) (fun _ h => ?_)
  · refine r_iconst (pc' := 165) d_X8_block_164 ci_0 rfl ?_
    exact WM.drop [] rfl (t_X8_block_165 hK122 h)
  · refine r_iload_n (pc' := 161) d_X8_block_160 rfl rfl rfl ?_
    refine r_goto (pc' := 165) d_X8_block_161 rfl ?_
    exact WM.drop [] rfl (t_X8_block_165 hK122 h)
def f_X8_block_122 : Nat → Int32 → Int32 → Int32 → Int32 → SS → Option (Int32 × SS)
  | 0, _, _, _, _, _ => none
  | n + 1, v1, v2, v4, v5, σ => if (8 : Int32) ≤ v5 then (f_X8_block_173 v4 σ) else (chk (inr v5 8) (if (σ.1 40 0 (ix v5)) ≤ 0 then (f_X8_block_150 (f_X8_block_122 n) v1 v2 v4 v5 v5 (0 : Int32) σ) else (f_X8_block_150 (f_X8_block_122 n) v1 v2 v4 v5 v5 v1 σ)))
set_option maxRecDepth 20000 in
theorem t_X8_block_122 {d : Nat} {X : MX} {Y : MY} {b : Nat × Nat} {r : Int32} {σ' : SS} : ∀ (n : Nat) (v1 : Int32) (v2 : Int32) (v4 : Int32) (v5 : Int32) (σ : SS), f_X8_block_122 n v1 v2 v4 v5 σ = some (r, σ') → WM (d + 4) X Y b mi_X8_block 122 [some (vR 25 0), some (vI v1), some (vI v2), none, some (vI v4), some (vI v5)] [] σ (some (vI r), σ') := by
  intro n
  induction n with
  | zero => intro _ _ _ _ σ h; cases h
  | succ n ih =>
    intro v1 v2 v4 v5 σ h
    rw [f_X8_block_122] at h
    refine r_iload (pc' := 124) d_X8_block_122 rfl rfl ?_
    refine r_bipush (pc' := 126) d_X8_block_124 cb_8 rfl ?_
    refine r_icmp_ge (pcT := 173) (pc' := 129) d_X8_block_126 rfl rfl h (fun _ h => ?_) (fun _ h => ?_)
    · exact WM.drop [1, 2, 5] rfl (t_X8_block_173 h)
    · refine r_aload_n (pc' := 130) d_X8_block_129 rfl rfl rfl ?_
      refine r_get (v := vR 53 _) (pc' := 133) fl_X8_47 d_X8_block_130 rfl rfl (fun g => Or.inl ⟨rfl, g.2⟩) rfl ?_
      refine r_iload (pc' := 135) d_X8_block_133 rfl rfl ?_
      refine r_aload_n (pc' := 136) d_X8_block_135 rfl rfl rfl ?_
      refine r_get (v := vR 40 _) (pc' := 139) fl_X8_7 d_X8_block_136 rfl rfl (fun g => Or.inl ⟨rfl, g.2⟩) rfl ?_
      refine r_iload (pc' := 141) d_X8_block_139 rfl rfl ?_
      refine r_iaload (pc' := 142) d_X8_block_141 rfl (fun _ => rfl) rfl h (fun h => ?_)
      refine r_if_le (pcT := 149) (pc' := 145) d_X8_block_142 rfl rfl h (fun _ h => ?_) (fun _ h => ?_)
      · refine r_iconst (pc' := 150) d_X8_block_149 ci_0 rfl ?_
        exact WM.drop [] rfl (t_X8_block_150 ih h)
      · refine r_iload_n (pc' := 146) d_X8_block_145 rfl rfl rfl ?_
        refine r_goto (pc' := 150) d_X8_block_146 rfl ?_
        exact WM.drop [] rfl (t_X8_block_150 ih h)
def f_X8_block (v1 : Int32) (v2 : Int32) (v3 : Int32) (σ : SS) : Option (Int32 × SS) := cal (f_X8_in (Int32.toInt64 v1) (1 : Int64) (1000 : Int64) σ) (fun x2 s1 => if x2 = 0 then (some ((-1 : Int32), s1)) else (cal (f_X8_in (Int32.toInt64 v2) (1 : Int64) (1000 : Int64) s1) (fun x4 s3 => if x4 = 0 then (some ((-1 : Int32), s3)) else (cal (f_X8_in (Int32.toInt64 v3) (1 : Int64) (1000 : Int64) s3) (fun x6 s5 => if x6 = 0 then (some ((-1 : Int32), s5)) else (if (s5.1 25 0 6) = (60 : Int32) then (some ((-3 : Int32), s5)) else (lt_ (s5.1 25 0 6) (fun x7 => cal (f_X8_keep (1 : Int32) x7 s5) (fun _ s8 => lt_ (up s8 25 0 6 ((s8.1 25 0 6) + (1 : Int32))) (fun s9 => chk (inr x7 60) (lt_ (up s9 47 0 (ix x7) (1 : Int32)) (fun s10 => chk (inr x7 60) (lt_ (up s10 51 0 (ix x7) (1 : Int32)) (fun s11 => chk (inr x7 60) (lt_ (up s11 52 0 (ix x7) (((8 : Int32) * v1) * v2)) (fun s12 => chk (inr x7 60) (lt_ (up s12 50 0 (ix x7) x7) (fun s13 => chk (inr x7 60) (lt_ (up s13 49 0 (ix x7) v3) (fun s14 => f_X8_block_122 FU v1 v2 x7 (0 : Int32) s14))))))))))))))))))))
set_option maxRecDepth 20000 in
theorem t_X8_block {d : Nat} {b : Nat × Nat} {v1 : Int32} {v2 : Int32} {v3 : Int32} {σ : SS} {r : Int32} {σ' : SS} (h : f_X8_block v1 v2 v3 σ = some (r, σ')) : MM (d + 4) b mi_X8_block [vR 25 0, vI v1, vI v2, vI v3] σ (some (vI r), σ') := by
  refine MM.of (lv := [some (vR 25 0), some (vI v1), some (vI v2), some (vI v3), none, none]) (by decide +kernel) rfl rfl (fun X Y => ?_)
  rw [f_X8_block] at h
  refine r_iload_n (pc' := 1) d_X8_block_0 rfl rfl rfl ?_
  refine r_i2l (pc' := 2) d_X8_block_1 rfl ?_
  refine r_lconst (pc' := 3) (x := 1) d_X8_block_2 rfl rfl ?_
  refine r_ldc2 (pc' := 6) k_X8_184 d_X8_block_3 rfl ?_
  refine s3_i (mc := mi_X8_in) (bc := (0, 0)) (b' := _) (pc' := 9) cw_X8_139 d_X8_block_6 rfl (Nat.zero_add _).symm (Nat.zero_add _).symm rfl h (fun _ _ e => t_X8_in e) (fun x2 s1 h => ?_)
  refine r_if_eq (pcT := 36) (pc' := 12) d_X8_block_9 rfl rfl h (fun _ h => ?_) (fun _ h => ?_)
  · refine r_iconst (pc' := 37) d_X8_block_36 ci_m1 rfl ?_
    exact r_iret d_X8_block_37 rfl h
  · refine r_iload_n (pc' := 13) d_X8_block_12 rfl rfl rfl ?_
    refine r_i2l (pc' := 14) d_X8_block_13 rfl ?_
    refine r_lconst (pc' := 15) (x := 1) d_X8_block_14 rfl rfl ?_
    refine r_ldc2 (pc' := 18) k_X8_184 d_X8_block_15 rfl ?_
    refine s3_i (mc := mi_X8_in) (bc := (0, 0)) (b' := _) (pc' := 21) cw_X8_139 d_X8_block_18 rfl (Nat.zero_add _).symm (Nat.zero_add _).symm rfl h (fun _ _ e => t_X8_in e) (fun x4 s3 h => ?_)
    refine r_if_eq (pcT := 36) (pc' := 24) d_X8_block_21 rfl rfl h (fun _ h => ?_) (fun _ h => ?_)
    · refine r_iconst (pc' := 37) d_X8_block_36 ci_m1 rfl ?_
      exact r_iret d_X8_block_37 rfl h
    · refine r_iload_n (pc' := 25) d_X8_block_24 rfl rfl rfl ?_
      refine r_i2l (pc' := 26) d_X8_block_25 rfl ?_
      refine r_lconst (pc' := 27) (x := 1) d_X8_block_26 rfl rfl ?_
      refine r_ldc2 (pc' := 30) k_X8_184 d_X8_block_27 rfl ?_
      refine s3_i (mc := mi_X8_in) (bc := (0, 0)) (b' := _) (pc' := 33) cw_X8_139 d_X8_block_30 rfl (Nat.zero_add _).symm (Nat.zero_add _).symm rfl h (fun _ _ e => t_X8_in e) (fun x6 s5 h => ?_)
      refine r_if_ne (pcT := 38) (pc' := 36) d_X8_block_33 rfl rfl h (fun _ h => ?_) (fun _ h => ?_)
      · refine r_iconst (pc' := 37) d_X8_block_36 ci_m1 rfl ?_
        exact r_iret d_X8_block_37 rfl h
      · refine r_aload_n (pc' := 39) d_X8_block_38 rfl rfl rfl ?_
        refine r_get (v := vI _) (pc' := 42) fl_X8_135 d_X8_block_39 rfl rfl (fun _ => trivial) rfl ?_
        refine r_bipush (pc' := 44) d_X8_block_42 cb_60 rfl ?_
        refine r_icmp_ne (pcT := 50) (pc' := 47) d_X8_block_44 rfl rfl h (fun _ h => ?_) (fun _ h => ?_)
        · refine r_bipush (pc' := 49) d_X8_block_47 cb_m3 rfl ?_
          exact r_iret d_X8_block_49 rfl h
        · refine r_aload_n (pc' := 51) d_X8_block_50 rfl rfl rfl ?_
          refine r_get (v := vI _) (pc' := 54) fl_X8_135 d_X8_block_51 rfl rfl (fun _ => trivial) rfl ?_
          refine l_istore (pc' := 56) d_X8_block_54 rfl rfl rfl h (fun x7 h => ?_)
          refine r_aload_n (pc' := 57) d_X8_block_56 rfl rfl rfl ?_
          refine r_iconst (pc' := 58) d_X8_block_57 ci_1 rfl ?_
          refine r_iload (pc' := 60) d_X8_block_58 rfl rfl ?_
          refine v2_v (mc := mi_X8_keep) (bc := (0, 0)) (b' := _) (pc' := 63) cw_X8_186 d_X8_block_60 rfl rfl rfl (Nat.zero_add _).symm (Nat.zero_add _).symm rfl h (fun _ _ e => t_X8_keep e) (fun _ s8 h => ?_)
          refine r_aload_n (pc' := 64) d_X8_block_63 rfl rfl rfl ?_
          refine r_dup (pc' := 65) d_X8_block_64 rfl rfl ?_
          refine r_get (v := vI _) (pc' := 68) fl_X8_135 d_X8_block_65 rfl rfl (fun _ => trivial) rfl ?_
          refine r_iconst (pc' := 69) d_X8_block_68 ci_1 rfl ?_
          refine r_iadd (pc' := 70) d_X8_block_69 rfl ?_
          refine l_put (k := 6) (pc' := 73) fl_X8_135 fw_8_6 rfl rfl d_X8_block_70 rfl (by decide) (by decide) rfl rfl h (fun s9 h => ?_)
          refine r_aload_n (pc' := 74) d_X8_block_73 rfl rfl rfl ?_
          refine r_get (v := vR 47 _) (pc' := 77) fl_X8_28 d_X8_block_74 rfl rfl (fun g => Or.inl ⟨rfl, g.2⟩) rfl ?_
          refine r_iload (pc' := 79) d_X8_block_77 rfl rfl ?_
          refine r_iconst (pc' := 80) d_X8_block_79 ci_1 rfl ?_
          refine l_bastore (pc' := 81) d_X8_block_80 rfl (fun _ => rfl) (by decide) (by decide) (fun _ => rfl) (Or.inr rfl) rfl h (fun s10 h => ?_)
          refine r_aload_n (pc' := 82) d_X8_block_81 rfl rfl rfl ?_
          refine r_get (v := vR 51 _) (pc' := 85) fl_X8_41 d_X8_block_82 rfl rfl (fun g => Or.inl ⟨rfl, g.2⟩) rfl ?_
          refine r_iload (pc' := 87) d_X8_block_85 rfl rfl ?_
          refine r_iconst (pc' := 88) d_X8_block_87 ci_1 rfl ?_
          refine l_bastore (pc' := 89) d_X8_block_88 rfl (fun _ => rfl) (by decide) (by decide) (fun _ => rfl) (Or.inr rfl) rfl h (fun s11 h => ?_)
          refine r_aload_n (pc' := 90) d_X8_block_89 rfl rfl rfl ?_
          refine r_get (v := vR 52 _) (pc' := 93) fl_X8_44 d_X8_block_90 rfl rfl (fun g => Or.inl ⟨rfl, g.2⟩) rfl ?_
          refine r_iload (pc' := 95) d_X8_block_93 rfl rfl ?_
          refine r_bipush (pc' := 97) d_X8_block_95 cb_8 rfl ?_
          refine r_iload_n (pc' := 98) d_X8_block_97 rfl rfl rfl ?_
          refine r_imul (pc' := 99) d_X8_block_98 rfl ?_
          refine r_iload_n (pc' := 100) d_X8_block_99 rfl rfl rfl ?_
          refine r_imul (pc' := 101) d_X8_block_100 rfl ?_
          refine l_iastore (pc' := 102) d_X8_block_101 rfl (fun _ => rfl) (by decide) (by decide) (fun _ => rfl) rfl h (fun s12 h => ?_)
          refine r_aload_n (pc' := 103) d_X8_block_102 rfl rfl rfl ?_
          refine r_get (v := vR 50 _) (pc' := 106) fl_X8_38 d_X8_block_103 rfl rfl (fun g => Or.inl ⟨rfl, g.2⟩) rfl ?_
          refine r_iload (pc' := 108) d_X8_block_106 rfl rfl ?_
          refine r_iload (pc' := 110) d_X8_block_108 rfl rfl ?_
          refine l_iastore (pc' := 111) d_X8_block_110 rfl (fun _ => rfl) (by decide) (by decide) (fun _ => rfl) rfl h (fun s13 h => ?_)
          refine r_aload_n (pc' := 112) d_X8_block_111 rfl rfl rfl ?_
          refine r_get (v := vR 49 _) (pc' := 115) fl_X8_35 d_X8_block_112 rfl rfl (fun g => Or.inl ⟨rfl, g.2⟩) rfl ?_
          refine r_iload (pc' := 117) d_X8_block_115 rfl rfl ?_
          refine r_iload_n (pc' := 118) d_X8_block_117 rfl rfl rfl ?_
          refine l_iastore (pc' := 119) d_X8_block_118 rfl (fun _ => rfl) (by decide) (by decide) (fun _ => rfl) rfl h (fun s14 h => ?_)
          refine r_iconst (pc' := 120) d_X8_block_119 ci_0 rfl ?_
          refine r_istore (pc' := 122) d_X8_block_120 rfl rfl rfl ?_
          exact WM.drop [3] rfl (t_X8_block_122 _ _ _ _ _ _ h)
/-! OctagonYardModel.cut(III)I -/
def mi_X8_cut : MI := (yX8_cut, cX8_cut, 6, (some .int))
theorem d_X8_cut_0 : decode mi_X8_cut.2.1 0 = .ok (.aload_n 0, 1) := by decide +kernel
theorem d_X8_cut_1 : decode mi_X8_cut.2.1 1 = .ok (.iload_n 1, 1) := by decide +kernel
theorem d_X8_cut_2 : decode mi_X8_cut.2.1 2 = .ok (.invokevirtual 192, 3) := by decide +kernel
theorem d_X8_cut_5 : decode mi_X8_cut.2.1 5 = .ok (.ifCond .eq 29, 3) := by decide +kernel
theorem d_X8_cut_8 : decode mi_X8_cut.2.1 8 = .ok (.iload_n 2, 1) := by decide +kernel
theorem d_X8_cut_9 : decode mi_X8_cut.2.1 9 = .ok (.i2l, 1) := by decide +kernel
theorem d_X8_cut_10 : decode mi_X8_cut.2.1 10 = .ok (.lconst 0, 1) := by decide +kernel
theorem d_X8_cut_11 : decode mi_X8_cut.2.1 11 = .ok (.ldc2_w 195, 3) := by decide +kernel
theorem d_X8_cut_14 : decode mi_X8_cut.2.1 14 = .ok (.invokestatic 139, 3) := by decide +kernel
theorem d_X8_cut_17 : decode mi_X8_cut.2.1 17 = .ok (.ifCond .eq 17, 3) := by decide +kernel
theorem d_X8_cut_20 : decode mi_X8_cut.2.1 20 = .ok (.iload_n 3, 1) := by decide +kernel
theorem d_X8_cut_21 : decode mi_X8_cut.2.1 21 = .ok (.i2l, 1) := by decide +kernel
theorem d_X8_cut_22 : decode mi_X8_cut.2.1 22 = .ok (.ldc2_w 197, 3) := by decide +kernel
theorem d_X8_cut_25 : decode mi_X8_cut.2.1 25 = .ok (.ldc2_w 199, 3) := by decide +kernel
theorem d_X8_cut_28 : decode mi_X8_cut.2.1 28 = .ok (.invokestatic 139, 3) := by decide +kernel
theorem d_X8_cut_31 : decode mi_X8_cut.2.1 31 = .ok (.ifCond .ne 5, 3) := by decide +kernel
theorem d_X8_cut_34 : decode mi_X8_cut.2.1 34 = .ok (.iconst (-1), 1) := by decide +kernel
theorem d_X8_cut_35 : decode mi_X8_cut.2.1 35 = .ok (.ireturn, 1) := by decide +kernel
theorem d_X8_cut_36 : decode mi_X8_cut.2.1 36 = .ok (.aload_n 0, 1) := by decide +kernel
theorem d_X8_cut_37 : decode mi_X8_cut.2.1 37 = .ok (.iload_n 1, 1) := by decide +kernel
theorem d_X8_cut_38 : decode mi_X8_cut.2.1 38 = .ok (.invokevirtual 201, 3) := by decide +kernel
theorem d_X8_cut_41 : decode mi_X8_cut.2.1 41 = .ok (.iconst 2, 1) := by decide +kernel
theorem d_X8_cut_42 : decode mi_X8_cut.2.1 42 = .ok (.iload_n 3, 1) := by decide +kernel
theorem d_X8_cut_43 : decode mi_X8_cut.2.1 43 = .ok (.imul, 1) := by decide +kernel
theorem d_X8_cut_44 : decode mi_X8_cut.2.1 44 = .ok (.aload_n 0, 1) := by decide +kernel
theorem d_X8_cut_45 : decode mi_X8_cut.2.1 45 = .ok (.iload_n 2, 1) := by decide +kernel
theorem d_X8_cut_46 : decode mi_X8_cut.2.1 46 = .ok (.invokevirtual 167, 3) := by decide +kernel
theorem d_X8_cut_49 : decode mi_X8_cut.2.1 49 = .ok (.if_icmp .ge 17, 3) := by decide +kernel
theorem d_X8_cut_52 : decode mi_X8_cut.2.1 52 = .ok (.bipush (-2), 2) := by decide +kernel
theorem d_X8_cut_54 : decode mi_X8_cut.2.1 54 = .ok (.iload_n 3, 1) := by decide +kernel
theorem d_X8_cut_55 : decode mi_X8_cut.2.1 55 = .ok (.imul, 1) := by decide +kernel
theorem d_X8_cut_56 : decode mi_X8_cut.2.1 56 = .ok (.aload_n 0, 1) := by decide +kernel
theorem d_X8_cut_57 : decode mi_X8_cut.2.1 57 = .ok (.iload_n 2, 1) := by decide +kernel
theorem d_X8_cut_58 : decode mi_X8_cut.2.1 58 = .ok (.iconst 4, 1) := by decide +kernel
theorem d_X8_cut_59 : decode mi_X8_cut.2.1 59 = .ok (.iadd, 1) := by decide +kernel
theorem d_X8_cut_60 : decode mi_X8_cut.2.1 60 = .ok (.invokevirtual 167, 3) := by decide +kernel
theorem d_X8_cut_63 : decode mi_X8_cut.2.1 63 = .ok (.if_icmp .lt 6, 3) := by decide +kernel
theorem d_X8_cut_66 : decode mi_X8_cut.2.1 66 = .ok (.bipush (-2), 2) := by decide +kernel
theorem d_X8_cut_68 : decode mi_X8_cut.2.1 68 = .ok (.ireturn, 1) := by decide +kernel
theorem d_X8_cut_69 : decode mi_X8_cut.2.1 69 = .ok (.aload_n 0, 1) := by decide +kernel
theorem d_X8_cut_70 : decode mi_X8_cut.2.1 70 = .ok (.getfield 135, 3) := by decide +kernel
theorem d_X8_cut_73 : decode mi_X8_cut.2.1 73 = .ok (.bipush 60, 2) := by decide +kernel
theorem d_X8_cut_75 : decode mi_X8_cut.2.1 75 = .ok (.if_icmp .ne 6, 3) := by decide +kernel
theorem d_X8_cut_78 : decode mi_X8_cut.2.1 78 = .ok (.bipush (-3), 2) := by decide +kernel
theorem d_X8_cut_80 : decode mi_X8_cut.2.1 80 = .ok (.ireturn, 1) := by decide +kernel
theorem d_X8_cut_81 : decode mi_X8_cut.2.1 81 = .ok (.aload_n 0, 1) := by decide +kernel
theorem d_X8_cut_82 : decode mi_X8_cut.2.1 82 = .ok (.iconst 3, 1) := by decide +kernel
theorem d_X8_cut_83 : decode mi_X8_cut.2.1 83 = .ok (.iload_n 1, 1) := by decide +kernel
theorem d_X8_cut_84 : decode mi_X8_cut.2.1 84 = .ok (.invokevirtual 186, 3) := by decide +kernel
theorem d_X8_cut_87 : decode mi_X8_cut.2.1 87 = .ok (.aload_n 0, 1) := by decide +kernel
theorem d_X8_cut_88 : decode mi_X8_cut.2.1 88 = .ok (.getfield 135, 3) := by decide +kernel
theorem d_X8_cut_91 : decode mi_X8_cut.2.1 91 = .ok (.istore 4, 2) := by decide +kernel
theorem d_X8_cut_93 : decode mi_X8_cut.2.1 93 = .ok (.aload_n 0, 1) := by decide +kernel
theorem d_X8_cut_94 : decode mi_X8_cut.2.1 94 = .ok (.dup, 1) := by decide +kernel
theorem d_X8_cut_95 : decode mi_X8_cut.2.1 95 = .ok (.getfield 135, 3) := by decide +kernel
theorem d_X8_cut_98 : decode mi_X8_cut.2.1 98 = .ok (.iconst 1, 1) := by decide +kernel
theorem d_X8_cut_99 : decode mi_X8_cut.2.1 99 = .ok (.iadd, 1) := by decide +kernel
theorem d_X8_cut_100 : decode mi_X8_cut.2.1 100 = .ok (.putfield 135, 3) := by decide +kernel
theorem d_X8_cut_103 : decode mi_X8_cut.2.1 103 = .ok (.aload_n 0, 1) := by decide +kernel
theorem d_X8_cut_104 : decode mi_X8_cut.2.1 104 = .ok (.getfield 28, 3) := by decide +kernel
theorem d_X8_cut_107 : decode mi_X8_cut.2.1 107 = .ok (.iload 4, 2) := by decide +kernel
theorem d_X8_cut_109 : decode mi_X8_cut.2.1 109 = .ok (.iconst 1, 1) := by decide +kernel
theorem d_X8_cut_110 : decode mi_X8_cut.2.1 110 = .ok (.bastore, 1) := by decide +kernel
theorem d_X8_cut_111 : decode mi_X8_cut.2.1 111 = .ok (.aload_n 0, 1) := by decide +kernel
theorem d_X8_cut_112 : decode mi_X8_cut.2.1 112 = .ok (.getfield 41, 3) := by decide +kernel
theorem d_X8_cut_115 : decode mi_X8_cut.2.1 115 = .ok (.iload 4, 2) := by decide +kernel
theorem d_X8_cut_117 : decode mi_X8_cut.2.1 117 = .ok (.iconst 0, 1) := by decide +kernel
theorem d_X8_cut_118 : decode mi_X8_cut.2.1 118 = .ok (.bastore, 1) := by decide +kernel
theorem d_X8_cut_119 : decode mi_X8_cut.2.1 119 = .ok (.aload_n 0, 1) := by decide +kernel
theorem d_X8_cut_120 : decode mi_X8_cut.2.1 120 = .ok (.getfield 38, 3) := by decide +kernel
theorem d_X8_cut_123 : decode mi_X8_cut.2.1 123 = .ok (.iload 4, 2) := by decide +kernel
theorem d_X8_cut_125 : decode mi_X8_cut.2.1 125 = .ok (.aload_n 0, 1) := by decide +kernel
theorem d_X8_cut_126 : decode mi_X8_cut.2.1 126 = .ok (.getfield 38, 3) := by decide +kernel
theorem d_X8_cut_129 : decode mi_X8_cut.2.1 129 = .ok (.iload_n 1, 1) := by decide +kernel
theorem d_X8_cut_130 : decode mi_X8_cut.2.1 130 = .ok (.iaload, 1) := by decide +kernel
theorem d_X8_cut_131 : decode mi_X8_cut.2.1 131 = .ok (.iastore, 1) := by decide +kernel
theorem d_X8_cut_132 : decode mi_X8_cut.2.1 132 = .ok (.aload_n 0, 1) := by decide +kernel
theorem d_X8_cut_133 : decode mi_X8_cut.2.1 133 = .ok (.getfield 35, 3) := by decide +kernel
theorem d_X8_cut_136 : decode mi_X8_cut.2.1 136 = .ok (.iload 4, 2) := by decide +kernel
theorem d_X8_cut_138 : decode mi_X8_cut.2.1 138 = .ok (.aload_n 0, 1) := by decide +kernel
theorem d_X8_cut_139 : decode mi_X8_cut.2.1 139 = .ok (.getfield 35, 3) := by decide +kernel
theorem d_X8_cut_142 : decode mi_X8_cut.2.1 142 = .ok (.iload_n 1, 1) := by decide +kernel
theorem d_X8_cut_143 : decode mi_X8_cut.2.1 143 = .ok (.iaload, 1) := by decide +kernel
theorem d_X8_cut_144 : decode mi_X8_cut.2.1 144 = .ok (.iastore, 1) := by decide +kernel
theorem d_X8_cut_145 : decode mi_X8_cut.2.1 145 = .ok (.aload_n 0, 1) := by decide +kernel
theorem d_X8_cut_146 : decode mi_X8_cut.2.1 146 = .ok (.getfield 47, 3) := by decide +kernel
theorem d_X8_cut_149 : decode mi_X8_cut.2.1 149 = .ok (.iload_n 2, 1) := by decide +kernel
theorem d_X8_cut_150 : decode mi_X8_cut.2.1 150 = .ok (.iconst 4, 1) := by decide +kernel
theorem d_X8_cut_151 : decode mi_X8_cut.2.1 151 = .ok (.iadd, 1) := by decide +kernel
theorem d_X8_cut_152 : decode mi_X8_cut.2.1 152 = .ok (.iload_n 3, 1) := by decide +kernel
theorem d_X8_cut_153 : decode mi_X8_cut.2.1 153 = .ok (.ineg, 1) := by decide +kernel
theorem d_X8_cut_154 : decode mi_X8_cut.2.1 154 = .ok (.iastore, 1) := by decide +kernel
theorem d_X8_cut_155 : decode mi_X8_cut.2.1 155 = .ok (.aload_n 0, 1) := by decide +kernel
theorem d_X8_cut_156 : decode mi_X8_cut.2.1 156 = .ok (.iload 4, 2) := by decide +kernel
theorem d_X8_cut_158 : decode mi_X8_cut.2.1 158 = .ok (.invokevirtual 189, 3) := by decide +kernel
theorem d_X8_cut_161 : decode mi_X8_cut.2.1 161 = .ok (.iconst 0, 1) := by decide +kernel
theorem d_X8_cut_162 : decode mi_X8_cut.2.1 162 = .ok (.istore 5, 2) := by decide +kernel
theorem d_X8_cut_164 : decode mi_X8_cut.2.1 164 = .ok (.iload 5, 2) := by decide +kernel
theorem d_X8_cut_166 : decode mi_X8_cut.2.1 166 = .ok (.bipush 8, 2) := by decide +kernel
theorem d_X8_cut_168 : decode mi_X8_cut.2.1 168 = .ok (.if_icmp .ge 28, 3) := by decide +kernel
theorem d_X8_cut_171 : decode mi_X8_cut.2.1 171 = .ok (.aload_n 0, 1) := by decide +kernel
theorem d_X8_cut_172 : decode mi_X8_cut.2.1 172 = .ok (.getfield 47, 3) := by decide +kernel
theorem d_X8_cut_175 : decode mi_X8_cut.2.1 175 = .ok (.iload 5, 2) := by decide +kernel
theorem d_X8_cut_177 : decode mi_X8_cut.2.1 177 = .ok (.aload_n 0, 1) := by decide +kernel
theorem d_X8_cut_178 : decode mi_X8_cut.2.1 178 = .ok (.getfield 32, 3) := by decide +kernel
theorem d_X8_cut_181 : decode mi_X8_cut.2.1 181 = .ok (.bipush 8, 2) := by decide +kernel
theorem d_X8_cut_183 : decode mi_X8_cut.2.1 183 = .ok (.iload_n 1, 1) := by decide +kernel
theorem d_X8_cut_184 : decode mi_X8_cut.2.1 184 = .ok (.imul, 1) := by decide +kernel
theorem d_X8_cut_185 : decode mi_X8_cut.2.1 185 = .ok (.iload 5, 2) := by decide +kernel
theorem d_X8_cut_187 : decode mi_X8_cut.2.1 187 = .ok (.iadd, 1) := by decide +kernel
theorem d_X8_cut_188 : decode mi_X8_cut.2.1 188 = .ok (.iaload, 1) := by decide +kernel
theorem d_X8_cut_189 : decode mi_X8_cut.2.1 189 = .ok (.iastore, 1) := by decide +kernel
theorem d_X8_cut_190 : decode mi_X8_cut.2.1 190 = .ok (.iinc 5 1, 3) := by decide +kernel
theorem d_X8_cut_193 : decode mi_X8_cut.2.1 193 = .ok (.goto (-29), 3) := by decide +kernel
theorem d_X8_cut_196 : decode mi_X8_cut.2.1 196 = .ok (.aload_n 0, 1) := by decide +kernel
theorem d_X8_cut_197 : decode mi_X8_cut.2.1 197 = .ok (.getfield 47, 3) := by decide +kernel
theorem d_X8_cut_200 : decode mi_X8_cut.2.1 200 = .ok (.iload_n 2, 1) := by decide +kernel
theorem d_X8_cut_201 : decode mi_X8_cut.2.1 201 = .ok (.iload_n 3, 1) := by decide +kernel
theorem d_X8_cut_202 : decode mi_X8_cut.2.1 202 = .ok (.iastore, 1) := by decide +kernel
theorem d_X8_cut_203 : decode mi_X8_cut.2.1 203 = .ok (.aload_n 0, 1) := by decide +kernel
theorem d_X8_cut_204 : decode mi_X8_cut.2.1 204 = .ok (.iload_n 1, 1) := by decide +kernel
theorem d_X8_cut_205 : decode mi_X8_cut.2.1 205 = .ok (.invokevirtual 189, 3) := by decide +kernel
theorem d_X8_cut_208 : decode mi_X8_cut.2.1 208 = .ok (.iload 4, 2) := by decide +kernel
theorem d_X8_cut_210 : decode mi_X8_cut.2.1 210 = .ok (.ireturn, 1) := by decide +kernel
theorem k_X8_195 : Cond.constantLong RX8 195 (3) ∈ mtbl := by decide +kernel
theorem k_X8_197 : Cond.constantLong RX8 197 (-4000) ∈ mtbl := by decide +kernel
theorem k_X8_199 : Cond.constantLong RX8 199 (4000) ∈ mtbl := by decide +kernel
theorem cw_X8_192 : CV RX8 192 mi_X8_isPiece 1 := by unfold CV; decide +kernel
theorem cw_X8_201 : CV RX8 201 mi_X8_takes 1 := by unfold CV; decide +kernel
def f_X8_cut_196 (v1 : Int32) (v2 : Int32) (v3 : Int32) (v4 : Int32) (σ : SS) : Option (Int32 × SS) := chk (inr v2 8) (lt_ (up σ 53 0 (ix v2) v3) (fun s1 => cal (f_X8_keeps v1 s1) (fun _ s2 => some (v4, s2))))
set_option maxRecDepth 20000 in
theorem t_X8_cut_196 {d : Nat} {X : MX} {Y : MY} {b : Nat × Nat} {r : Int32} {σ' : SS} {v1 : Int32} {v2 : Int32} {v3 : Int32} {v4 : Int32} {σ : SS} (h : f_X8_cut_196 v1 v2 v3 v4 σ = some (r, σ')) : WM (d + 5) X Y b mi_X8_cut 196 [some (vR 25 0), some (vI v1), some (vI v2), some (vI v3), some (vI v4), none] [] σ (some (vI r), σ') := by
  rw [f_X8_cut_196] at h
  refine r_aload_n (pc' := 197) d_X8_cut_196 rfl rfl rfl ?_
  refine r_get (v := vR 53 _) (pc' := 200) fl_X8_47 d_X8_cut_197 rfl rfl (fun g => Or.inl ⟨rfl, g.2⟩) rfl ?_
  refine r_iload_n (pc' := 201) d_X8_cut_200 rfl rfl rfl ?_
  refine r_iload_n (pc' := 202) d_X8_cut_201 rfl rfl rfl ?_
  refine l_iastore (pc' := 203) d_X8_cut_202 rfl (fun _ => rfl) (by decide) (by decide) (fun _ => rfl) rfl h (fun s1 h => ?_)
  refine r_aload_n (pc' := 204) d_X8_cut_203 rfl rfl rfl ?_
  refine r_iload_n (pc' := 205) d_X8_cut_204 rfl rfl rfl ?_
  refine v1_v (mc := mi_X8_keeps) (bc := (0, 0)) (b' := _) (pc' := 208) cw_X8_189 d_X8_cut_205 rfl rfl rfl (Nat.zero_add _).symm (Nat.zero_add _).symm rfl h (fun _ _ e => t_X8_keeps e) (fun _ s2 h => ?_)
  refine r_iload (pc' := 210) d_X8_cut_208 rfl rfl ?_
  exact r_iret d_X8_cut_210 rfl h
def f_X8_cut_164 : Nat → Int32 → Int32 → Int32 → Int32 → Int32 → SS → Option (Int32 × SS)
  | 0, _, _, _, _, _, _ => none
  | n + 1, v1, v2, v3, v4, v5, σ => if (8 : Int32) ≤ v5 then (f_X8_cut_196 v1 v2 v3 v4 σ) else (chk (inr (((8 : Int32) * v1) + v5) 480) (chk (inr v5 8) (lt_ (up σ 53 0 (ix v5) (σ.1 48 0 (ix (((8 : Int32) * v1) + v5)))) (fun s1 => lt_ (v5 + (1 : Int32)) (fun x2 => f_X8_cut_164 n v1 v2 v3 v4 x2 s1)))))
set_option maxRecDepth 20000 in
theorem t_X8_cut_164 {d : Nat} {X : MX} {Y : MY} {b : Nat × Nat} {r : Int32} {σ' : SS} : ∀ (n : Nat) (v1 : Int32) (v2 : Int32) (v3 : Int32) (v4 : Int32) (v5 : Int32) (σ : SS), f_X8_cut_164 n v1 v2 v3 v4 v5 σ = some (r, σ') → WM (d + 5) X Y b mi_X8_cut 164 [some (vR 25 0), some (vI v1), some (vI v2), some (vI v3), some (vI v4), some (vI v5)] [] σ (some (vI r), σ') := by
  intro n
  induction n with
  | zero => intro _ _ _ _ _ σ h; cases h
  | succ n ih =>
    intro v1 v2 v3 v4 v5 σ h
    rw [f_X8_cut_164] at h
    refine r_iload (pc' := 166) d_X8_cut_164 rfl rfl ?_
    refine r_bipush (pc' := 168) d_X8_cut_166 cb_8 rfl ?_
    refine r_icmp_ge (pcT := 196) (pc' := 171) d_X8_cut_168 rfl rfl h (fun _ h => ?_) (fun _ h => ?_)
    · exact WM.drop [5] rfl (t_X8_cut_196 h)
    · refine r_aload_n (pc' := 172) d_X8_cut_171 rfl rfl rfl ?_
      refine r_get (v := vR 53 _) (pc' := 175) fl_X8_47 d_X8_cut_172 rfl rfl (fun g => Or.inl ⟨rfl, g.2⟩) rfl ?_
      refine r_iload (pc' := 177) d_X8_cut_175 rfl rfl ?_
      refine r_aload_n (pc' := 178) d_X8_cut_177 rfl rfl rfl ?_
      refine r_get (v := vR 48 _) (pc' := 181) fl_X8_32 d_X8_cut_178 rfl rfl (fun g => Or.inl ⟨rfl, g.2⟩) rfl ?_
      refine r_bipush (pc' := 183) d_X8_cut_181 cb_8 rfl ?_
      refine r_iload_n (pc' := 184) d_X8_cut_183 rfl rfl rfl ?_
      refine r_imul (pc' := 185) d_X8_cut_184 rfl ?_
      refine r_iload (pc' := 187) d_X8_cut_185 rfl rfl ?_
      refine r_iadd (pc' := 188) d_X8_cut_187 rfl ?_
      refine r_iaload (pc' := 189) d_X8_cut_188 rfl (fun _ => rfl) rfl h (fun h => ?_)
      refine l_iastore (pc' := 190) d_X8_cut_189 rfl (fun _ => rfl) (by decide) (by decide) (fun _ => rfl) rfl h (fun s1 h => ?_)
      refine l_iinc (pc' := 193) d_X8_cut_190 rfl ci_1 rfl rfl rfl h (fun x2 h => ?_)
      refine r_goto (pc' := 164) d_X8_cut_193 rfl ?_
      exact WM.drop [] rfl (ih _ _ _ _ _ _ h)
def f_X8_cut (v1 : Int32) (v2 : Int32) (v3 : Int32) (σ : SS) : Option (Int32 × SS) := cal (f_X8_isPiece v1 σ) (fun x2 s1 => if x2 = 0 then (some ((-1 : Int32), s1)) else (cal (f_X8_in (Int32.toInt64 v2) (0 : Int64) (3 : Int64) s1) (fun x4 s3 => if x4 = 0 then (some ((-1 : Int32), s3)) else (cal (f_X8_in (Int32.toInt64 v3) (-4000 : Int64) (4000 : Int64) s3) (fun x6 s5 => if x6 = 0 then (some ((-1 : Int32), s5)) else (cal (f_X8_takes v1 s5) (fun _ s7 => cal (f_X8_most v2 s7) (fun x9 s8 => if x9 ≤ ((2 : Int32) * v3) then (some ((-2 : Int32), s8)) else (cal (f_X8_most (v2 + (4 : Int32)) s8) (fun x11 s10 => if ((-2 : Int32) * v3) < x11 then (if (s10.1 25 0 6) = (60 : Int32) then (some ((-3 : Int32), s10)) else (cal (f_X8_keep (3 : Int32) v1 s10) (fun _ s12 => lt_ (s12.1 25 0 6) (fun x13 => lt_ (up s12 25 0 6 ((s12.1 25 0 6) + (1 : Int32))) (fun s14 => chk (inr x13 60) (lt_ (up s14 47 0 (ix x13) (1 : Int32)) (fun s15 => chk (inr x13 60) (lt_ (up s15 51 0 (ix x13) (0 : Int32)) (fun s16 => chk (inr v1 60) (chk (inr x13 60) (lt_ (up s16 50 0 (ix x13) (s16.1 50 0 (ix v1))) (fun s17 => chk (inr v1 60) (chk (inr x13 60) (lt_ (up s17 49 0 (ix x13) (s17.1 49 0 (ix v1))) (fun s18 => chk (inr (v2 + (4 : Int32)) 8) (lt_ (up s18 53 0 (ix (v2 + (4 : Int32))) (-v3)) (fun s19 => cal (f_X8_keeps x13 s19) (fun _ s20 => f_X8_cut_164 FU v1 v2 v3 x13 (0 : Int32) s20)))))))))))))))))) else (some ((-2 : Int32), s10))))))))))))
set_option maxRecDepth 20000 in
theorem t_X8_cut {d : Nat} {b : Nat × Nat} {v1 : Int32} {v2 : Int32} {v3 : Int32} {σ : SS} {r : Int32} {σ' : SS} (h : f_X8_cut v1 v2 v3 σ = some (r, σ')) : MM (d + 5) b mi_X8_cut [vR 25 0, vI v1, vI v2, vI v3] σ (some (vI r), σ') := by
  refine MM.of (lv := [some (vR 25 0), some (vI v1), some (vI v2), some (vI v3), none, none]) (by decide +kernel) rfl rfl (fun X Y => ?_)
  rw [f_X8_cut] at h
  refine r_aload_n (pc' := 1) d_X8_cut_0 rfl rfl rfl ?_
  refine r_iload_n (pc' := 2) d_X8_cut_1 rfl rfl rfl ?_
  refine v1_i (mc := mi_X8_isPiece) (bc := (0, 0)) (b' := _) (pc' := 5) cw_X8_192 d_X8_cut_2 rfl rfl rfl (Nat.zero_add _).symm (Nat.zero_add _).symm rfl h (fun _ _ e => t_X8_isPiece e) (fun x2 s1 h => ?_)
  refine r_if_eq (pcT := 34) (pc' := 8) d_X8_cut_5 rfl rfl h (fun _ h => ?_) (fun _ h => ?_)
  · refine r_iconst (pc' := 35) d_X8_cut_34 ci_m1 rfl ?_
    exact r_iret d_X8_cut_35 rfl h
  · refine r_iload_n (pc' := 9) d_X8_cut_8 rfl rfl rfl ?_
    refine r_i2l (pc' := 10) d_X8_cut_9 rfl ?_
    refine r_lconst (pc' := 11) (x := 0) d_X8_cut_10 rfl rfl ?_
    refine r_ldc2 (pc' := 14) k_X8_195 d_X8_cut_11 rfl ?_
    refine s3_i (mc := mi_X8_in) (bc := (0, 0)) (b' := _) (pc' := 17) cw_X8_139 d_X8_cut_14 rfl (Nat.zero_add _).symm (Nat.zero_add _).symm rfl h (fun _ _ e => t_X8_in e) (fun x4 s3 h => ?_)
    refine r_if_eq (pcT := 34) (pc' := 20) d_X8_cut_17 rfl rfl h (fun _ h => ?_) (fun _ h => ?_)
    · refine r_iconst (pc' := 35) d_X8_cut_34 ci_m1 rfl ?_
      exact r_iret d_X8_cut_35 rfl h
    · refine r_iload_n (pc' := 21) d_X8_cut_20 rfl rfl rfl ?_
      refine r_i2l (pc' := 22) d_X8_cut_21 rfl ?_
      refine r_ldc2 (pc' := 25) k_X8_197 d_X8_cut_22 rfl ?_
      refine r_ldc2 (pc' := 28) k_X8_199 d_X8_cut_25 rfl ?_
      refine s3_i (mc := mi_X8_in) (bc := (0, 0)) (b' := _) (pc' := 31) cw_X8_139 d_X8_cut_28 rfl (Nat.zero_add _).symm (Nat.zero_add _).symm rfl h (fun _ _ e => t_X8_in e) (fun x6 s5 h => ?_)
      refine r_if_ne (pcT := 36) (pc' := 34) d_X8_cut_31 rfl rfl h (fun _ h => ?_) (fun _ h => ?_)
      · refine r_iconst (pc' := 35) d_X8_cut_34 ci_m1 rfl ?_
        exact r_iret d_X8_cut_35 rfl h
      · refine r_aload_n (pc' := 37) d_X8_cut_36 rfl rfl rfl ?_
        refine r_iload_n (pc' := 38) d_X8_cut_37 rfl rfl rfl ?_
        refine v1_v (mc := mi_X8_takes) (bc := (0, 0)) (b' := _) (pc' := 41) cw_X8_201 d_X8_cut_38 rfl rfl rfl (Nat.zero_add _).symm (Nat.zero_add _).symm rfl h (fun _ _ e => t_X8_takes e) (fun _ s7 h => ?_)
        refine r_iconst (pc' := 42) d_X8_cut_41 ci_2 rfl ?_
        refine r_iload_n (pc' := 43) d_X8_cut_42 rfl rfl rfl ?_
        refine r_imul (pc' := 44) d_X8_cut_43 rfl ?_
        refine r_aload_n (pc' := 45) d_X8_cut_44 rfl rfl rfl ?_
        refine r_iload_n (pc' := 46) d_X8_cut_45 rfl rfl rfl ?_
        refine v1_i (mc := mi_X8_most) (bc := (0, 0)) (b' := _) (pc' := 49) cw_X8_167 d_X8_cut_46 rfl rfl rfl (Nat.zero_add _).symm (Nat.zero_add _).symm rfl h (fun _ _ e => t_X8_most e) (fun x9 s8 h => ?_)
        refine r_icmp_ge (pcT := 66) (pc' := 52) d_X8_cut_49 rfl rfl h (fun _ h => ?_) (fun _ h => ?_)
        · refine r_bipush (pc' := 68) d_X8_cut_66 cb_m2 rfl ?_
          exact r_iret d_X8_cut_68 rfl h
        · refine r_bipush (pc' := 54) d_X8_cut_52 cb_m2 rfl ?_
          refine r_iload_n (pc' := 55) d_X8_cut_54 rfl rfl rfl ?_
          refine r_imul (pc' := 56) d_X8_cut_55 rfl ?_
          refine r_aload_n (pc' := 57) d_X8_cut_56 rfl rfl rfl ?_
          refine r_iload_n (pc' := 58) d_X8_cut_57 rfl rfl rfl ?_
          refine r_iconst (pc' := 59) d_X8_cut_58 ci_4 rfl ?_
          refine r_iadd (pc' := 60) d_X8_cut_59 rfl ?_
          refine v1_i (mc := mi_X8_most) (bc := (0, 0)) (b' := _) (pc' := 63) cw_X8_167 d_X8_cut_60 rfl rfl rfl (Nat.zero_add _).symm (Nat.zero_add _).symm rfl h (fun _ _ e => t_X8_most e) (fun x11 s10 h => ?_)
          refine r_icmp_lt (pcT := 69) (pc' := 66) d_X8_cut_63 rfl rfl h (fun _ h => ?_) (fun _ h => ?_)
          · refine r_aload_n (pc' := 70) d_X8_cut_69 rfl rfl rfl ?_
            refine r_get (v := vI _) (pc' := 73) fl_X8_135 d_X8_cut_70 rfl rfl (fun _ => trivial) rfl ?_
            refine r_bipush (pc' := 75) d_X8_cut_73 cb_60 rfl ?_
            refine r_icmp_ne (pcT := 81) (pc' := 78) d_X8_cut_75 rfl rfl h (fun _ h => ?_) (fun _ h => ?_)
            · refine r_bipush (pc' := 80) d_X8_cut_78 cb_m3 rfl ?_
              exact r_iret d_X8_cut_80 rfl h
            · refine r_aload_n (pc' := 82) d_X8_cut_81 rfl rfl rfl ?_
              refine r_iconst (pc' := 83) d_X8_cut_82 ci_3 rfl ?_
              refine r_iload_n (pc' := 84) d_X8_cut_83 rfl rfl rfl ?_
              refine v2_v (mc := mi_X8_keep) (bc := (0, 0)) (b' := _) (pc' := 87) cw_X8_186 d_X8_cut_84 rfl rfl rfl (Nat.zero_add _).symm (Nat.zero_add _).symm rfl h (fun _ _ e => t_X8_keep e) (fun _ s12 h => ?_)
              refine r_aload_n (pc' := 88) d_X8_cut_87 rfl rfl rfl ?_
              refine r_get (v := vI _) (pc' := 91) fl_X8_135 d_X8_cut_88 rfl rfl (fun _ => trivial) rfl ?_
              refine l_istore (pc' := 93) d_X8_cut_91 rfl rfl rfl h (fun x13 h => ?_)
              refine r_aload_n (pc' := 94) d_X8_cut_93 rfl rfl rfl ?_
              refine r_dup (pc' := 95) d_X8_cut_94 rfl rfl ?_
              refine r_get (v := vI _) (pc' := 98) fl_X8_135 d_X8_cut_95 rfl rfl (fun _ => trivial) rfl ?_
              refine r_iconst (pc' := 99) d_X8_cut_98 ci_1 rfl ?_
              refine r_iadd (pc' := 100) d_X8_cut_99 rfl ?_
              refine l_put (k := 6) (pc' := 103) fl_X8_135 fw_8_6 rfl rfl d_X8_cut_100 rfl (by decide) (by decide) rfl rfl h (fun s14 h => ?_)
              refine r_aload_n (pc' := 104) d_X8_cut_103 rfl rfl rfl ?_
              refine r_get (v := vR 47 _) (pc' := 107) fl_X8_28 d_X8_cut_104 rfl rfl (fun g => Or.inl ⟨rfl, g.2⟩) rfl ?_
              refine r_iload (pc' := 109) d_X8_cut_107 rfl rfl ?_
              refine r_iconst (pc' := 110) d_X8_cut_109 ci_1 rfl ?_
              refine l_bastore (pc' := 111) d_X8_cut_110 rfl (fun _ => rfl) (by decide) (by decide) (fun _ => rfl) (Or.inr rfl) rfl h (fun s15 h => ?_)
              refine r_aload_n (pc' := 112) d_X8_cut_111 rfl rfl rfl ?_
              refine r_get (v := vR 51 _) (pc' := 115) fl_X8_41 d_X8_cut_112 rfl rfl (fun g => Or.inl ⟨rfl, g.2⟩) rfl ?_
              refine r_iload (pc' := 117) d_X8_cut_115 rfl rfl ?_
              refine r_iconst (pc' := 118) d_X8_cut_117 ci_0 rfl ?_
              refine l_bastore (pc' := 119) d_X8_cut_118 rfl (fun _ => rfl) (by decide) (by decide) (fun _ => rfl) (Or.inl rfl) rfl h (fun s16 h => ?_)
              refine r_aload_n (pc' := 120) d_X8_cut_119 rfl rfl rfl ?_
              refine r_get (v := vR 50 _) (pc' := 123) fl_X8_38 d_X8_cut_120 rfl rfl (fun g => Or.inl ⟨rfl, g.2⟩) rfl ?_
              refine r_iload (pc' := 125) d_X8_cut_123 rfl rfl ?_
              refine r_aload_n (pc' := 126) d_X8_cut_125 rfl rfl rfl ?_
              refine r_get (v := vR 50 _) (pc' := 129) fl_X8_38 d_X8_cut_126 rfl rfl (fun g => Or.inl ⟨rfl, g.2⟩) rfl ?_
              refine r_iload_n (pc' := 130) d_X8_cut_129 rfl rfl rfl ?_
              refine r_iaload (pc' := 131) d_X8_cut_130 rfl (fun _ => rfl) rfl h (fun h => ?_)
              refine l_iastore (pc' := 132) d_X8_cut_131 rfl (fun _ => rfl) (by decide) (by decide) (fun _ => rfl) rfl h (fun s17 h => ?_)
              refine r_aload_n (pc' := 133) d_X8_cut_132 rfl rfl rfl ?_
              refine r_get (v := vR 49 _) (pc' := 136) fl_X8_35 d_X8_cut_133 rfl rfl (fun g => Or.inl ⟨rfl, g.2⟩) rfl ?_
              refine r_iload (pc' := 138) d_X8_cut_136 rfl rfl ?_
              refine r_aload_n (pc' := 139) d_X8_cut_138 rfl rfl rfl ?_
              refine r_get (v := vR 49 _) (pc' := 142) fl_X8_35 d_X8_cut_139 rfl rfl (fun g => Or.inl ⟨rfl, g.2⟩) rfl ?_
              refine r_iload_n (pc' := 143) d_X8_cut_142 rfl rfl rfl ?_
              refine r_iaload (pc' := 144) d_X8_cut_143 rfl (fun _ => rfl) rfl h (fun h => ?_)
              refine l_iastore (pc' := 145) d_X8_cut_144 rfl (fun _ => rfl) (by decide) (by decide) (fun _ => rfl) rfl h (fun s18 h => ?_)
              refine r_aload_n (pc' := 146) d_X8_cut_145 rfl rfl rfl ?_
              refine r_get (v := vR 53 _) (pc' := 149) fl_X8_47 d_X8_cut_146 rfl rfl (fun g => Or.inl ⟨rfl, g.2⟩) rfl ?_
              refine r_iload_n (pc' := 150) d_X8_cut_149 rfl rfl rfl ?_
              refine r_iconst (pc' := 151) d_X8_cut_150 ci_4 rfl ?_
              refine r_iadd (pc' := 152) d_X8_cut_151 rfl ?_
              refine r_iload_n (pc' := 153) d_X8_cut_152 rfl rfl rfl ?_
              refine r_ineg (pc' := 154) d_X8_cut_153 rfl ?_
              refine l_iastore (pc' := 155) d_X8_cut_154 rfl (fun _ => rfl) (by decide) (by decide) (fun _ => rfl) rfl h (fun s19 h => ?_)
              refine r_aload_n (pc' := 156) d_X8_cut_155 rfl rfl rfl ?_
              refine r_iload (pc' := 158) d_X8_cut_156 rfl rfl ?_
              refine v1_v (mc := mi_X8_keeps) (bc := (0, 0)) (b' := _) (pc' := 161) cw_X8_189 d_X8_cut_158 rfl rfl rfl (Nat.zero_add _).symm (Nat.zero_add _).symm rfl h (fun _ _ e => t_X8_keeps e) (fun _ s20 h => ?_)
              refine r_iconst (pc' := 162) d_X8_cut_161 ci_0 rfl ?_
              refine r_istore (pc' := 164) d_X8_cut_162 rfl rfl rfl ?_
              exact WM.drop [] rfl (t_X8_cut_164 _ _ _ _ _ _ _ h)
          · refine r_bipush (pc' := 68) d_X8_cut_66 cb_m2 rfl ?_
            exact r_iret d_X8_cut_68 rfl h
/-! OctagonYardModel.move(III)I -/
def mi_X8_move : MI := (yX8_move, cX8_move, 5, (some .int))
theorem d_X8_move_0 : decode mi_X8_move.2.1 0 = .ok (.aload_n 0, 1) := by decide +kernel
theorem d_X8_move_1 : decode mi_X8_move.2.1 1 = .ok (.iload_n 1, 1) := by decide +kernel
theorem d_X8_move_2 : decode mi_X8_move.2.1 2 = .ok (.invokevirtual 192, 3) := by decide +kernel
theorem d_X8_move_5 : decode mi_X8_move.2.1 5 = .ok (.ifCond .eq 31, 3) := by decide +kernel
theorem d_X8_move_8 : decode mi_X8_move.2.1 8 = .ok (.iload_n 2, 1) := by decide +kernel
theorem d_X8_move_9 : decode mi_X8_move.2.1 9 = .ok (.i2l, 1) := by decide +kernel
theorem d_X8_move_10 : decode mi_X8_move.2.1 10 = .ok (.ldc2_w 204, 3) := by decide +kernel
theorem d_X8_move_13 : decode mi_X8_move.2.1 13 = .ok (.ldc2_w 184, 3) := by decide +kernel
theorem d_X8_move_16 : decode mi_X8_move.2.1 16 = .ok (.invokestatic 139, 3) := by decide +kernel
theorem d_X8_move_19 : decode mi_X8_move.2.1 19 = .ok (.ifCond .eq 17, 3) := by decide +kernel
theorem d_X8_move_22 : decode mi_X8_move.2.1 22 = .ok (.iload_n 3, 1) := by decide +kernel
theorem d_X8_move_23 : decode mi_X8_move.2.1 23 = .ok (.i2l, 1) := by decide +kernel
theorem d_X8_move_24 : decode mi_X8_move.2.1 24 = .ok (.ldc2_w 204, 3) := by decide +kernel
theorem d_X8_move_27 : decode mi_X8_move.2.1 27 = .ok (.ldc2_w 184, 3) := by decide +kernel
theorem d_X8_move_30 : decode mi_X8_move.2.1 30 = .ok (.invokestatic 139, 3) := by decide +kernel
theorem d_X8_move_33 : decode mi_X8_move.2.1 33 = .ok (.ifCond .ne 5, 3) := by decide +kernel
theorem d_X8_move_36 : decode mi_X8_move.2.1 36 = .ok (.iconst (-1), 1) := by decide +kernel
theorem d_X8_move_37 : decode mi_X8_move.2.1 37 = .ok (.ireturn, 1) := by decide +kernel
theorem d_X8_move_38 : decode mi_X8_move.2.1 38 = .ok (.iconst 0, 1) := by decide +kernel
theorem d_X8_move_39 : decode mi_X8_move.2.1 39 = .ok (.istore 4, 2) := by decide +kernel
theorem d_X8_move_41 : decode mi_X8_move.2.1 41 = .ok (.iload 4, 2) := by decide +kernel
theorem d_X8_move_43 : decode mi_X8_move.2.1 43 = .ok (.bipush 8, 2) := by decide +kernel
theorem d_X8_move_45 : decode mi_X8_move.2.1 45 = .ok (.if_icmp .ge 56, 3) := by decide +kernel
theorem d_X8_move_48 : decode mi_X8_move.2.1 48 = .ok (.aload_n 0, 1) := by decide +kernel
theorem d_X8_move_49 : decode mi_X8_move.2.1 49 = .ok (.getfield 32, 3) := by decide +kernel
theorem d_X8_move_52 : decode mi_X8_move.2.1 52 = .ok (.bipush 8, 2) := by decide +kernel
theorem d_X8_move_54 : decode mi_X8_move.2.1 54 = .ok (.iload_n 1, 1) := by decide +kernel
theorem d_X8_move_55 : decode mi_X8_move.2.1 55 = .ok (.imul, 1) := by decide +kernel
theorem d_X8_move_56 : decode mi_X8_move.2.1 56 = .ok (.iload 4, 2) := by decide +kernel
theorem d_X8_move_58 : decode mi_X8_move.2.1 58 = .ok (.iadd, 1) := by decide +kernel
theorem d_X8_move_59 : decode mi_X8_move.2.1 59 = .ok (.iaload, 1) := by decide +kernel
theorem d_X8_move_60 : decode mi_X8_move.2.1 60 = .ok (.aload_n 0, 1) := by decide +kernel
theorem d_X8_move_61 : decode mi_X8_move.2.1 61 = .ok (.getfield 7, 3) := by decide +kernel
theorem d_X8_move_64 : decode mi_X8_move.2.1 64 = .ok (.iload 4, 2) := by decide +kernel
theorem d_X8_move_66 : decode mi_X8_move.2.1 66 = .ok (.iaload, 1) := by decide +kernel
theorem d_X8_move_67 : decode mi_X8_move.2.1 67 = .ok (.iload_n 2, 1) := by decide +kernel
theorem d_X8_move_68 : decode mi_X8_move.2.1 68 = .ok (.imul, 1) := by decide +kernel
theorem d_X8_move_69 : decode mi_X8_move.2.1 69 = .ok (.iadd, 1) := by decide +kernel
theorem d_X8_move_70 : decode mi_X8_move.2.1 70 = .ok (.aload_n 0, 1) := by decide +kernel
theorem d_X8_move_71 : decode mi_X8_move.2.1 71 = .ok (.getfield 13, 3) := by decide +kernel
theorem d_X8_move_74 : decode mi_X8_move.2.1 74 = .ok (.iload 4, 2) := by decide +kernel
theorem d_X8_move_76 : decode mi_X8_move.2.1 76 = .ok (.iaload, 1) := by decide +kernel
theorem d_X8_move_77 : decode mi_X8_move.2.1 77 = .ok (.iload_n 3, 1) := by decide +kernel
theorem d_X8_move_78 : decode mi_X8_move.2.1 78 = .ok (.imul, 1) := by decide +kernel
theorem d_X8_move_79 : decode mi_X8_move.2.1 79 = .ok (.iadd, 1) := by decide +kernel
theorem d_X8_move_80 : decode mi_X8_move.2.1 80 = .ok (.i2l, 1) := by decide +kernel
theorem d_X8_move_81 : decode mi_X8_move.2.1 81 = .ok (.ldc2_w 197, 3) := by decide +kernel
theorem d_X8_move_84 : decode mi_X8_move.2.1 84 = .ok (.ldc2_w 199, 3) := by decide +kernel
theorem d_X8_move_87 : decode mi_X8_move.2.1 87 = .ok (.invokestatic 139, 3) := by decide +kernel
theorem d_X8_move_90 : decode mi_X8_move.2.1 90 = .ok (.ifCond .ne 5, 3) := by decide +kernel
theorem d_X8_move_93 : decode mi_X8_move.2.1 93 = .ok (.iconst (-1), 1) := by decide +kernel
theorem d_X8_move_94 : decode mi_X8_move.2.1 94 = .ok (.ireturn, 1) := by decide +kernel
theorem d_X8_move_95 : decode mi_X8_move.2.1 95 = .ok (.iinc 4 1, 3) := by decide +kernel
theorem d_X8_move_98 : decode mi_X8_move.2.1 98 = .ok (.goto (-57), 3) := by decide +kernel
theorem d_X8_move_101 : decode mi_X8_move.2.1 101 = .ok (.aload_n 0, 1) := by decide +kernel
theorem d_X8_move_102 : decode mi_X8_move.2.1 102 = .ok (.iconst 2, 1) := by decide +kernel
theorem d_X8_move_103 : decode mi_X8_move.2.1 103 = .ok (.iload_n 1, 1) := by decide +kernel
theorem d_X8_move_104 : decode mi_X8_move.2.1 104 = .ok (.invokevirtual 186, 3) := by decide +kernel
theorem d_X8_move_107 : decode mi_X8_move.2.1 107 = .ok (.iconst 0, 1) := by decide +kernel
theorem d_X8_move_108 : decode mi_X8_move.2.1 108 = .ok (.istore 4, 2) := by decide +kernel
theorem d_X8_move_110 : decode mi_X8_move.2.1 110 = .ok (.iload 4, 2) := by decide +kernel
theorem d_X8_move_112 : decode mi_X8_move.2.1 112 = .ok (.bipush 8, 2) := by decide +kernel
theorem d_X8_move_114 : decode mi_X8_move.2.1 114 = .ok (.if_icmp .ge 43, 3) := by decide +kernel
theorem d_X8_move_117 : decode mi_X8_move.2.1 117 = .ok (.aload_n 0, 1) := by decide +kernel
theorem d_X8_move_118 : decode mi_X8_move.2.1 118 = .ok (.getfield 32, 3) := by decide +kernel
theorem d_X8_move_121 : decode mi_X8_move.2.1 121 = .ok (.bipush 8, 2) := by decide +kernel
theorem d_X8_move_123 : decode mi_X8_move.2.1 123 = .ok (.iload_n 1, 1) := by decide +kernel
theorem d_X8_move_124 : decode mi_X8_move.2.1 124 = .ok (.imul, 1) := by decide +kernel
theorem d_X8_move_125 : decode mi_X8_move.2.1 125 = .ok (.iload 4, 2) := by decide +kernel
theorem d_X8_move_127 : decode mi_X8_move.2.1 127 = .ok (.iadd, 1) := by decide +kernel
theorem d_X8_move_128 : decode mi_X8_move.2.1 128 = .ok (.dup2, 1) := by decide +kernel
theorem d_X8_move_129 : decode mi_X8_move.2.1 129 = .ok (.iaload, 1) := by decide +kernel
theorem d_X8_move_130 : decode mi_X8_move.2.1 130 = .ok (.aload_n 0, 1) := by decide +kernel
theorem d_X8_move_131 : decode mi_X8_move.2.1 131 = .ok (.getfield 7, 3) := by decide +kernel
theorem d_X8_move_134 : decode mi_X8_move.2.1 134 = .ok (.iload 4, 2) := by decide +kernel
theorem d_X8_move_136 : decode mi_X8_move.2.1 136 = .ok (.iaload, 1) := by decide +kernel
theorem d_X8_move_137 : decode mi_X8_move.2.1 137 = .ok (.iload_n 2, 1) := by decide +kernel
theorem d_X8_move_138 : decode mi_X8_move.2.1 138 = .ok (.imul, 1) := by decide +kernel
theorem d_X8_move_139 : decode mi_X8_move.2.1 139 = .ok (.aload_n 0, 1) := by decide +kernel
theorem d_X8_move_140 : decode mi_X8_move.2.1 140 = .ok (.getfield 13, 3) := by decide +kernel
theorem d_X8_move_143 : decode mi_X8_move.2.1 143 = .ok (.iload 4, 2) := by decide +kernel
theorem d_X8_move_145 : decode mi_X8_move.2.1 145 = .ok (.iaload, 1) := by decide +kernel
theorem d_X8_move_146 : decode mi_X8_move.2.1 146 = .ok (.iload_n 3, 1) := by decide +kernel
theorem d_X8_move_147 : decode mi_X8_move.2.1 147 = .ok (.imul, 1) := by decide +kernel
theorem d_X8_move_148 : decode mi_X8_move.2.1 148 = .ok (.iadd, 1) := by decide +kernel
theorem d_X8_move_149 : decode mi_X8_move.2.1 149 = .ok (.iadd, 1) := by decide +kernel
theorem d_X8_move_150 : decode mi_X8_move.2.1 150 = .ok (.iastore, 1) := by decide +kernel
theorem d_X8_move_151 : decode mi_X8_move.2.1 151 = .ok (.iinc 4 1, 3) := by decide +kernel
theorem d_X8_move_154 : decode mi_X8_move.2.1 154 = .ok (.goto (-44), 3) := by decide +kernel
theorem d_X8_move_157 : decode mi_X8_move.2.1 157 = .ok (.iconst 1, 1) := by decide +kernel
theorem d_X8_move_158 : decode mi_X8_move.2.1 158 = .ok (.ireturn, 1) := by decide +kernel
theorem k_X8_204 : Cond.constantLong RX8 204 (-1000) ∈ mtbl := by decide +kernel
def f_X8_move_110 : Nat → Int32 → Int32 → Int32 → Int32 → SS → Option (Int32 × SS)
  | 0, _, _, _, _, _ => none
  | n + 1, v1, v2, v3, v4, σ => if (8 : Int32) ≤ v4 then (some ((1 : Int32), σ)) else (chk (inr (((8 : Int32) * v1) + v4) 480) (chk (inr v4 8) (chk (inr v4 8) (chk (inr (((8 : Int32) * v1) + v4) 480) (lt_ (up σ 48 0 (ix (((8 : Int32) * v1) + v4)) ((σ.1 48 0 (ix (((8 : Int32) * v1) + v4))) + (((σ.1 40 0 (ix v4)) * v2) + ((σ.1 41 0 (ix v4)) * v3)))) (fun s1 => lt_ (v4 + (1 : Int32)) (fun x2 => f_X8_move_110 n v1 v2 v3 x2 s1)))))))
set_option maxRecDepth 20000 in
theorem t_X8_move_110 {d : Nat} {X : MX} {Y : MY} {b : Nat × Nat} {r : Int32} {σ' : SS} : ∀ (n : Nat) (v1 : Int32) (v2 : Int32) (v3 : Int32) (v4 : Int32) (σ : SS), f_X8_move_110 n v1 v2 v3 v4 σ = some (r, σ') → WM (d + 2) X Y b mi_X8_move 110 [some (vR 25 0), some (vI v1), some (vI v2), some (vI v3), some (vI v4)] [] σ (some (vI r), σ') := by
  intro n
  induction n with
  | zero => intro _ _ _ _ σ h; cases h
  | succ n ih =>
    intro v1 v2 v3 v4 σ h
    rw [f_X8_move_110] at h
    refine r_iload (pc' := 112) d_X8_move_110 rfl rfl ?_
    refine r_bipush (pc' := 114) d_X8_move_112 cb_8 rfl ?_
    refine r_icmp_ge (pcT := 157) (pc' := 117) d_X8_move_114 rfl rfl h (fun _ h => ?_) (fun _ h => ?_)
    · refine r_iconst (pc' := 158) d_X8_move_157 ci_1 rfl ?_
      exact r_iret d_X8_move_158 rfl h
    · refine r_aload_n (pc' := 118) d_X8_move_117 rfl rfl rfl ?_
      refine r_get (v := vR 48 _) (pc' := 121) fl_X8_32 d_X8_move_118 rfl rfl (fun g => Or.inl ⟨rfl, g.2⟩) rfl ?_
      refine r_bipush (pc' := 123) d_X8_move_121 cb_8 rfl ?_
      refine r_iload_n (pc' := 124) d_X8_move_123 rfl rfl rfl ?_
      refine r_imul (pc' := 125) d_X8_move_124 rfl ?_
      refine r_iload (pc' := 127) d_X8_move_125 rfl rfl ?_
      refine r_iadd (pc' := 128) d_X8_move_127 rfl ?_
      refine r_dup2 (pc' := 129) d_X8_move_128 rfl rfl rfl ?_
      refine r_iaload (pc' := 130) d_X8_move_129 rfl (fun _ => rfl) rfl h (fun h => ?_)
      refine r_aload_n (pc' := 131) d_X8_move_130 rfl rfl rfl ?_
      refine r_get (v := vR 40 _) (pc' := 134) fl_X8_7 d_X8_move_131 rfl rfl (fun g => Or.inl ⟨rfl, g.2⟩) rfl ?_
      refine r_iload (pc' := 136) d_X8_move_134 rfl rfl ?_
      refine r_iaload (pc' := 137) d_X8_move_136 rfl (fun _ => rfl) rfl h (fun h => ?_)
      refine r_iload_n (pc' := 138) d_X8_move_137 rfl rfl rfl ?_
      refine r_imul (pc' := 139) d_X8_move_138 rfl ?_
      refine r_aload_n (pc' := 140) d_X8_move_139 rfl rfl rfl ?_
      refine r_get (v := vR 41 _) (pc' := 143) fl_X8_13 d_X8_move_140 rfl rfl (fun g => Or.inl ⟨rfl, g.2⟩) rfl ?_
      refine r_iload (pc' := 145) d_X8_move_143 rfl rfl ?_
      refine r_iaload (pc' := 146) d_X8_move_145 rfl (fun _ => rfl) rfl h (fun h => ?_)
      refine r_iload_n (pc' := 147) d_X8_move_146 rfl rfl rfl ?_
      refine r_imul (pc' := 148) d_X8_move_147 rfl ?_
      refine r_iadd (pc' := 149) d_X8_move_148 rfl ?_
      refine r_iadd (pc' := 150) d_X8_move_149 rfl ?_
      refine l_iastore (pc' := 151) d_X8_move_150 rfl (fun _ => rfl) (by decide) (by decide) (fun _ => rfl) rfl h (fun s1 h => ?_)
      refine l_iinc (pc' := 154) d_X8_move_151 rfl ci_1 rfl rfl rfl h (fun x2 h => ?_)
      refine r_goto (pc' := 110) d_X8_move_154 rfl ?_
      exact WM.drop [] rfl (ih _ _ _ _ _ h)
def f_X8_move_101 (v1 : Int32) (v2 : Int32) (v3 : Int32) (σ : SS) : Option (Int32 × SS) := cal (f_X8_keep (2 : Int32) v1 σ) (fun _ s1 => f_X8_move_110 FU v1 v2 v3 (0 : Int32) s1)
set_option maxRecDepth 20000 in
theorem t_X8_move_101 {d : Nat} {X : MX} {Y : MY} {b : Nat × Nat} {r : Int32} {σ' : SS} {v1 : Int32} {v2 : Int32} {v3 : Int32} {σ : SS} (h : f_X8_move_101 v1 v2 v3 σ = some (r, σ')) : WM (d + 2) X Y b mi_X8_move 101 [some (vR 25 0), some (vI v1), some (vI v2), some (vI v3), none] [] σ (some (vI r), σ') := by
  rw [f_X8_move_101] at h
  refine r_aload_n (pc' := 102) d_X8_move_101 rfl rfl rfl ?_
  refine r_iconst (pc' := 103) d_X8_move_102 ci_2 rfl ?_
  refine r_iload_n (pc' := 104) d_X8_move_103 rfl rfl rfl ?_
  refine v2_v (mc := mi_X8_keep) (bc := (0, 0)) (b' := _) (pc' := 107) cw_X8_186 d_X8_move_104 rfl rfl rfl (Nat.zero_add _).symm (Nat.zero_add _).symm rfl h (fun _ _ e => t_X8_keep e) (fun _ s1 h => ?_)
  refine r_iconst (pc' := 108) d_X8_move_107 ci_0 rfl ?_
  refine r_istore (pc' := 110) d_X8_move_108 rfl rfl rfl ?_
  exact WM.drop [] rfl (t_X8_move_110 _ _ _ _ _ _ h)
def f_X8_move_41 : Nat → Int32 → Int32 → Int32 → Int32 → SS → Option (Int32 × SS)
  | 0, _, _, _, _, _ => none
  | n + 1, v1, v2, v3, v4, σ => if (8 : Int32) ≤ v4 then (f_X8_move_101 v1 v2 v3 σ) else (chk (inr (((8 : Int32) * v1) + v4) 480) (chk (inr v4 8) (chk (inr v4 8) (cal (f_X8_in (Int32.toInt64 (((σ.1 48 0 (ix (((8 : Int32) * v1) + v4))) + ((σ.1 40 0 (ix v4)) * v2)) + ((σ.1 41 0 (ix v4)) * v3))) (-4000 : Int64) (4000 : Int64) σ) (fun x2 s1 => if x2 = 0 then (some ((-1 : Int32), s1)) else (lt_ (v4 + (1 : Int32)) (fun x3 => f_X8_move_41 n v1 v2 v3 x3 s1)))))))
set_option maxRecDepth 20000 in
theorem t_X8_move_41 {d : Nat} {X : MX} {Y : MY} {b : Nat × Nat} {r : Int32} {σ' : SS} : ∀ (n : Nat) (v1 : Int32) (v2 : Int32) (v3 : Int32) (v4 : Int32) (σ : SS), f_X8_move_41 n v1 v2 v3 v4 σ = some (r, σ') → WM (d + 2) X Y b mi_X8_move 41 [some (vR 25 0), some (vI v1), some (vI v2), some (vI v3), some (vI v4)] [] σ (some (vI r), σ') := by
  intro n
  induction n with
  | zero => intro _ _ _ _ σ h; cases h
  | succ n ih =>
    intro v1 v2 v3 v4 σ h
    rw [f_X8_move_41] at h
    refine r_iload (pc' := 43) d_X8_move_41 rfl rfl ?_
    refine r_bipush (pc' := 45) d_X8_move_43 cb_8 rfl ?_
    refine r_icmp_ge (pcT := 101) (pc' := 48) d_X8_move_45 rfl rfl h (fun _ h => ?_) (fun _ h => ?_)
    · exact WM.drop [4] rfl (t_X8_move_101 h)
    · refine r_aload_n (pc' := 49) d_X8_move_48 rfl rfl rfl ?_
      refine r_get (v := vR 48 _) (pc' := 52) fl_X8_32 d_X8_move_49 rfl rfl (fun g => Or.inl ⟨rfl, g.2⟩) rfl ?_
      refine r_bipush (pc' := 54) d_X8_move_52 cb_8 rfl ?_
      refine r_iload_n (pc' := 55) d_X8_move_54 rfl rfl rfl ?_
      refine r_imul (pc' := 56) d_X8_move_55 rfl ?_
      refine r_iload (pc' := 58) d_X8_move_56 rfl rfl ?_
      refine r_iadd (pc' := 59) d_X8_move_58 rfl ?_
      refine r_iaload (pc' := 60) d_X8_move_59 rfl (fun _ => rfl) rfl h (fun h => ?_)
      refine r_aload_n (pc' := 61) d_X8_move_60 rfl rfl rfl ?_
      refine r_get (v := vR 40 _) (pc' := 64) fl_X8_7 d_X8_move_61 rfl rfl (fun g => Or.inl ⟨rfl, g.2⟩) rfl ?_
      refine r_iload (pc' := 66) d_X8_move_64 rfl rfl ?_
      refine r_iaload (pc' := 67) d_X8_move_66 rfl (fun _ => rfl) rfl h (fun h => ?_)
      refine r_iload_n (pc' := 68) d_X8_move_67 rfl rfl rfl ?_
      refine r_imul (pc' := 69) d_X8_move_68 rfl ?_
      refine r_iadd (pc' := 70) d_X8_move_69 rfl ?_
      refine r_aload_n (pc' := 71) d_X8_move_70 rfl rfl rfl ?_
      refine r_get (v := vR 41 _) (pc' := 74) fl_X8_13 d_X8_move_71 rfl rfl (fun g => Or.inl ⟨rfl, g.2⟩) rfl ?_
      refine r_iload (pc' := 76) d_X8_move_74 rfl rfl ?_
      refine r_iaload (pc' := 77) d_X8_move_76 rfl (fun _ => rfl) rfl h (fun h => ?_)
      refine r_iload_n (pc' := 78) d_X8_move_77 rfl rfl rfl ?_
      refine r_imul (pc' := 79) d_X8_move_78 rfl ?_
      refine r_iadd (pc' := 80) d_X8_move_79 rfl ?_
      refine r_i2l (pc' := 81) d_X8_move_80 rfl ?_
      refine r_ldc2 (pc' := 84) k_X8_197 d_X8_move_81 rfl ?_
      refine r_ldc2 (pc' := 87) k_X8_199 d_X8_move_84 rfl ?_
      refine s3_i (mc := mi_X8_in) (bc := (0, 0)) (b' := _) (pc' := 90) cw_X8_139 d_X8_move_87 rfl (Nat.zero_add _).symm (Nat.zero_add _).symm rfl h (fun _ _ e => t_X8_in e) (fun x2 s1 h => ?_)
      refine r_if_ne (pcT := 95) (pc' := 93) d_X8_move_90 rfl rfl h (fun _ h => ?_) (fun _ h => ?_)
      · refine r_iconst (pc' := 94) d_X8_move_93 ci_m1 rfl ?_
        exact r_iret d_X8_move_94 rfl h
      · refine l_iinc (pc' := 98) d_X8_move_95 rfl ci_1 rfl rfl rfl h (fun x3 h => ?_)
        refine r_goto (pc' := 41) d_X8_move_98 rfl ?_
        exact WM.drop [] rfl (ih _ _ _ _ _ h)
def f_X8_move (v1 : Int32) (v2 : Int32) (v3 : Int32) (σ : SS) : Option (Int32 × SS) := cal (f_X8_isPiece v1 σ) (fun x2 s1 => if x2 = 0 then (some ((-1 : Int32), s1)) else (cal (f_X8_in (Int32.toInt64 v2) (-1000 : Int64) (1000 : Int64) s1) (fun x4 s3 => if x4 = 0 then (some ((-1 : Int32), s3)) else (cal (f_X8_in (Int32.toInt64 v3) (-1000 : Int64) (1000 : Int64) s3) (fun x6 s5 => if x6 = 0 then (some ((-1 : Int32), s5)) else (f_X8_move_41 FU v1 v2 v3 (0 : Int32) s5))))))
set_option maxRecDepth 20000 in
theorem t_X8_move {d : Nat} {b : Nat × Nat} {v1 : Int32} {v2 : Int32} {v3 : Int32} {σ : SS} {r : Int32} {σ' : SS} (h : f_X8_move v1 v2 v3 σ = some (r, σ')) : MM (d + 2) b mi_X8_move [vR 25 0, vI v1, vI v2, vI v3] σ (some (vI r), σ') := by
  refine MM.of (lv := [some (vR 25 0), some (vI v1), some (vI v2), some (vI v3), none]) (by decide +kernel) rfl rfl (fun X Y => ?_)
  rw [f_X8_move] at h
  refine r_aload_n (pc' := 1) d_X8_move_0 rfl rfl rfl ?_
  refine r_iload_n (pc' := 2) d_X8_move_1 rfl rfl rfl ?_
  refine v1_i (mc := mi_X8_isPiece) (bc := (0, 0)) (b' := _) (pc' := 5) cw_X8_192 d_X8_move_2 rfl rfl rfl (Nat.zero_add _).symm (Nat.zero_add _).symm rfl h (fun _ _ e => t_X8_isPiece e) (fun x2 s1 h => ?_)
  refine r_if_eq (pcT := 36) (pc' := 8) d_X8_move_5 rfl rfl h (fun _ h => ?_) (fun _ h => ?_)
  · refine r_iconst (pc' := 37) d_X8_move_36 ci_m1 rfl ?_
    exact r_iret d_X8_move_37 rfl h
  · refine r_iload_n (pc' := 9) d_X8_move_8 rfl rfl rfl ?_
    refine r_i2l (pc' := 10) d_X8_move_9 rfl ?_
    refine r_ldc2 (pc' := 13) k_X8_204 d_X8_move_10 rfl ?_
    refine r_ldc2 (pc' := 16) k_X8_184 d_X8_move_13 rfl ?_
    refine s3_i (mc := mi_X8_in) (bc := (0, 0)) (b' := _) (pc' := 19) cw_X8_139 d_X8_move_16 rfl (Nat.zero_add _).symm (Nat.zero_add _).symm rfl h (fun _ _ e => t_X8_in e) (fun x4 s3 h => ?_)
    refine r_if_eq (pcT := 36) (pc' := 22) d_X8_move_19 rfl rfl h (fun _ h => ?_) (fun _ h => ?_)
    · refine r_iconst (pc' := 37) d_X8_move_36 ci_m1 rfl ?_
      exact r_iret d_X8_move_37 rfl h
    · refine r_iload_n (pc' := 23) d_X8_move_22 rfl rfl rfl ?_
      refine r_i2l (pc' := 24) d_X8_move_23 rfl ?_
      refine r_ldc2 (pc' := 27) k_X8_204 d_X8_move_24 rfl ?_
      refine r_ldc2 (pc' := 30) k_X8_184 d_X8_move_27 rfl ?_
      refine s3_i (mc := mi_X8_in) (bc := (0, 0)) (b' := _) (pc' := 33) cw_X8_139 d_X8_move_30 rfl (Nat.zero_add _).symm (Nat.zero_add _).symm rfl h (fun _ _ e => t_X8_in e) (fun x6 s5 h => ?_)
      refine r_if_ne (pcT := 38) (pc' := 36) d_X8_move_33 rfl rfl h (fun _ h => ?_) (fun _ h => ?_)
      · refine r_iconst (pc' := 37) d_X8_move_36 ci_m1 rfl ?_
        exact r_iret d_X8_move_37 rfl h
      · refine r_iconst (pc' := 39) d_X8_move_38 ci_0 rfl ?_
        refine r_istore (pc' := 41) d_X8_move_39 rfl rfl rfl ?_
        exact WM.drop [] rfl (t_X8_move_41 _ _ _ _ _ _ h)
/-! OctagonYardModel.turn(II)I -/
def mi_X8_turn : MI := (yX8_turn, cX8_turn, 4, (some .int))
theorem d_X8_turn_0 : decode mi_X8_turn.2.1 0 = .ok (.aload_n 0, 1) := by decide +kernel
theorem d_X8_turn_1 : decode mi_X8_turn.2.1 1 = .ok (.iload_n 1, 1) := by decide +kernel
theorem d_X8_turn_2 : decode mi_X8_turn.2.1 2 = .ok (.invokevirtual 192, 3) := by decide +kernel
theorem d_X8_turn_5 : decode mi_X8_turn.2.1 5 = .ok (.ifCond .eq 15, 3) := by decide +kernel
theorem d_X8_turn_8 : decode mi_X8_turn.2.1 8 = .ok (.iload_n 2, 1) := by decide +kernel
theorem d_X8_turn_9 : decode mi_X8_turn.2.1 9 = .ok (.i2l, 1) := by decide +kernel
theorem d_X8_turn_10 : decode mi_X8_turn.2.1 10 = .ok (.lconst 0, 1) := by decide +kernel
theorem d_X8_turn_11 : decode mi_X8_turn.2.1 11 = .ok (.ldc2_w 206, 3) := by decide +kernel
theorem d_X8_turn_14 : decode mi_X8_turn.2.1 14 = .ok (.invokestatic 139, 3) := by decide +kernel
theorem d_X8_turn_17 : decode mi_X8_turn.2.1 17 = .ok (.ifCond .ne 5, 3) := by decide +kernel
theorem d_X8_turn_20 : decode mi_X8_turn.2.1 20 = .ok (.iconst (-1), 1) := by decide +kernel
theorem d_X8_turn_21 : decode mi_X8_turn.2.1 21 = .ok (.ireturn, 1) := by decide +kernel
theorem d_X8_turn_22 : decode mi_X8_turn.2.1 22 = .ok (.aload_n 0, 1) := by decide +kernel
theorem d_X8_turn_23 : decode mi_X8_turn.2.1 23 = .ok (.iconst 2, 1) := by decide +kernel
theorem d_X8_turn_24 : decode mi_X8_turn.2.1 24 = .ok (.iload_n 1, 1) := by decide +kernel
theorem d_X8_turn_25 : decode mi_X8_turn.2.1 25 = .ok (.invokevirtual 186, 3) := by decide +kernel
theorem d_X8_turn_28 : decode mi_X8_turn.2.1 28 = .ok (.iconst 0, 1) := by decide +kernel
theorem d_X8_turn_29 : decode mi_X8_turn.2.1 29 = .ok (.istore_n 3, 1) := by decide +kernel
theorem d_X8_turn_30 : decode mi_X8_turn.2.1 30 = .ok (.iload_n 3, 1) := by decide +kernel
theorem d_X8_turn_31 : decode mi_X8_turn.2.1 31 = .ok (.bipush 8, 2) := by decide +kernel
theorem d_X8_turn_33 : decode mi_X8_turn.2.1 33 = .ok (.if_icmp .ge 26, 3) := by decide +kernel
theorem d_X8_turn_36 : decode mi_X8_turn.2.1 36 = .ok (.aload_n 0, 1) := by decide +kernel
theorem d_X8_turn_37 : decode mi_X8_turn.2.1 37 = .ok (.getfield 47, 3) := by decide +kernel
theorem d_X8_turn_40 : decode mi_X8_turn.2.1 40 = .ok (.iload_n 3, 1) := by decide +kernel
theorem d_X8_turn_41 : decode mi_X8_turn.2.1 41 = .ok (.aload_n 0, 1) := by decide +kernel
theorem d_X8_turn_42 : decode mi_X8_turn.2.1 42 = .ok (.getfield 32, 3) := by decide +kernel
theorem d_X8_turn_45 : decode mi_X8_turn.2.1 45 = .ok (.bipush 8, 2) := by decide +kernel
theorem d_X8_turn_47 : decode mi_X8_turn.2.1 47 = .ok (.iload_n 1, 1) := by decide +kernel
theorem d_X8_turn_48 : decode mi_X8_turn.2.1 48 = .ok (.imul, 1) := by decide +kernel
theorem d_X8_turn_49 : decode mi_X8_turn.2.1 49 = .ok (.iload_n 3, 1) := by decide +kernel
theorem d_X8_turn_50 : decode mi_X8_turn.2.1 50 = .ok (.iadd, 1) := by decide +kernel
theorem d_X8_turn_51 : decode mi_X8_turn.2.1 51 = .ok (.iaload, 1) := by decide +kernel
theorem d_X8_turn_52 : decode mi_X8_turn.2.1 52 = .ok (.iastore, 1) := by decide +kernel
theorem d_X8_turn_53 : decode mi_X8_turn.2.1 53 = .ok (.iinc 3 1, 3) := by decide +kernel
theorem d_X8_turn_56 : decode mi_X8_turn.2.1 56 = .ok (.goto (-26), 3) := by decide +kernel
theorem d_X8_turn_59 : decode mi_X8_turn.2.1 59 = .ok (.iconst 0, 1) := by decide +kernel
theorem d_X8_turn_60 : decode mi_X8_turn.2.1 60 = .ok (.istore_n 3, 1) := by decide +kernel
theorem d_X8_turn_61 : decode mi_X8_turn.2.1 61 = .ok (.iload_n 3, 1) := by decide +kernel
theorem d_X8_turn_62 : decode mi_X8_turn.2.1 62 = .ok (.bipush 8, 2) := by decide +kernel
theorem d_X8_turn_64 : decode mi_X8_turn.2.1 64 = .ok (.if_icmp .ge 58, 3) := by decide +kernel
theorem d_X8_turn_67 : decode mi_X8_turn.2.1 67 = .ok (.aload_n 0, 1) := by decide +kernel
theorem d_X8_turn_68 : decode mi_X8_turn.2.1 68 = .ok (.getfield 32, 3) := by decide +kernel
theorem d_X8_turn_71 : decode mi_X8_turn.2.1 71 = .ok (.bipush 8, 2) := by decide +kernel
theorem d_X8_turn_73 : decode mi_X8_turn.2.1 73 = .ok (.iload_n 1, 1) := by decide +kernel
theorem d_X8_turn_74 : decode mi_X8_turn.2.1 74 = .ok (.imul, 1) := by decide +kernel
theorem d_X8_turn_75 : decode mi_X8_turn.2.1 75 = .ok (.iload_n 2, 1) := by decide +kernel
theorem d_X8_turn_76 : decode mi_X8_turn.2.1 76 = .ok (.ifCond .ne 12, 3) := by decide +kernel
theorem d_X8_turn_79 : decode mi_X8_turn.2.1 79 = .ok (.aload_n 0, 1) := by decide +kernel
theorem d_X8_turn_80 : decode mi_X8_turn.2.1 80 = .ok (.getfield 19, 3) := by decide +kernel
theorem d_X8_turn_83 : decode mi_X8_turn.2.1 83 = .ok (.iload_n 3, 1) := by decide +kernel
theorem d_X8_turn_84 : decode mi_X8_turn.2.1 84 = .ok (.iaload, 1) := by decide +kernel
theorem d_X8_turn_85 : decode mi_X8_turn.2.1 85 = .ok (.goto 23, 3) := by decide +kernel
theorem d_X8_turn_88 : decode mi_X8_turn.2.1 88 = .ok (.iload_n 2, 1) := by decide +kernel
theorem d_X8_turn_89 : decode mi_X8_turn.2.1 89 = .ok (.iconst 1, 1) := by decide +kernel
theorem d_X8_turn_90 : decode mi_X8_turn.2.1 90 = .ok (.if_icmp .ne 12, 3) := by decide +kernel
theorem d_X8_turn_93 : decode mi_X8_turn.2.1 93 = .ok (.aload_n 0, 1) := by decide +kernel
theorem d_X8_turn_94 : decode mi_X8_turn.2.1 94 = .ok (.getfield 22, 3) := by decide +kernel
theorem d_X8_turn_97 : decode mi_X8_turn.2.1 97 = .ok (.iload_n 3, 1) := by decide +kernel
theorem d_X8_turn_98 : decode mi_X8_turn.2.1 98 = .ok (.iaload, 1) := by decide +kernel
theorem d_X8_turn_99 : decode mi_X8_turn.2.1 99 = .ok (.goto 9, 3) := by decide +kernel
theorem d_X8_turn_102 : decode mi_X8_turn.2.1 102 = .ok (.aload_n 0, 1) := by decide +kernel
theorem d_X8_turn_103 : decode mi_X8_turn.2.1 103 = .ok (.getfield 25, 3) := by decide +kernel
theorem d_X8_turn_106 : decode mi_X8_turn.2.1 106 = .ok (.iload_n 3, 1) := by decide +kernel
theorem d_X8_turn_107 : decode mi_X8_turn.2.1 107 = .ok (.iaload, 1) := by decide +kernel
theorem d_X8_turn_108 : decode mi_X8_turn.2.1 108 = .ok (.iadd, 1) := by decide +kernel
theorem d_X8_turn_109 : decode mi_X8_turn.2.1 109 = .ok (.aload_n 0, 1) := by decide +kernel
theorem d_X8_turn_110 : decode mi_X8_turn.2.1 110 = .ok (.getfield 47, 3) := by decide +kernel
theorem d_X8_turn_113 : decode mi_X8_turn.2.1 113 = .ok (.iload_n 3, 1) := by decide +kernel
theorem d_X8_turn_114 : decode mi_X8_turn.2.1 114 = .ok (.iaload, 1) := by decide +kernel
theorem d_X8_turn_115 : decode mi_X8_turn.2.1 115 = .ok (.iastore, 1) := by decide +kernel
theorem d_X8_turn_116 : decode mi_X8_turn.2.1 116 = .ok (.iinc 3 1, 3) := by decide +kernel
theorem d_X8_turn_119 : decode mi_X8_turn.2.1 119 = .ok (.goto (-58), 3) := by decide +kernel
theorem d_X8_turn_122 : decode mi_X8_turn.2.1 122 = .ok (.iconst 1, 1) := by decide +kernel
theorem d_X8_turn_123 : decode mi_X8_turn.2.1 123 = .ok (.ireturn, 1) := by decide +kernel
theorem fl_X8_19 : FL RX8 19 8 49 3 := ⟨RX8, TX8, rfl, by decide, rfl, by decide +kernel, in_8⟩
theorem fl_X8_22 : FL RX8 22 8 49 4 := ⟨RX8, TX8, rfl, by decide, rfl, by decide +kernel, in_8⟩
theorem fl_X8_25 : FL RX8 25 8 49 5 := ⟨RX8, TX8, rfl, by decide, rfl, by decide +kernel, in_8⟩
theorem k_X8_206 : Cond.constantLong RX8 206 (2) ∈ mtbl := by decide +kernel
def f_X8_turn_108 (K61 : Int32 → Int32 → Int32 → SS → Option (Int32 × SS)) (v1 : Int32) (v2 : Int32) (v3 : Int32) (u1 : Int32) (u2 : Int32) (σ : SS) : Option (Int32 × SS) := chk (inr v3 8) (chk (inr (u1 + u2) 480) (lt_ (up σ 48 0 (ix (u1 + u2)) (σ.1 53 0 (ix v3))) (fun s1 => lt_ (v3 + (1 : Int32)) (fun x2 => K61 v1 v2 x2 s1))))
set_option maxRecDepth 20000 in
theorem t_X8_turn_108 {d : Nat} {X : MX} {Y : MY} {b : Nat × Nat} {r : Int32} {σ' : SS} {K61 : Int32 → Int32 → Int32 → SS → Option (Int32 × SS)} {v1 : Int32} {v2 : Int32} {v3 : Int32} {u1 : Int32} {u2 : Int32} (hK61 : ∀ (v1 : Int32) (v2 : Int32) (v3 : Int32) (σ : SS), K61 v1 v2 v3 σ = some (r, σ') → WM (d + 2) X Y b mi_X8_turn 61 [some (vR 25 0), some (vI v1), some (vI v2), some (vI v3)] [] σ (some (vI r), σ')) {σ : SS} (h : f_X8_turn_108 K61 v1 v2 v3 u1 u2 σ = some (r, σ')) : WM (d + 2) X Y b mi_X8_turn 108 [some (vR 25 0), some (vI v1), some (vI v2), some (vI v3)] [vI u2, vI u1, vR 48 0] σ (some (vI r), σ') := by
  rw [f_X8_turn_108] at h
  refine r_iadd (pc' := 109) d_X8_turn_108 rfl ?_
  refine r_aload_n (pc' := 110) d_X8_turn_109 rfl rfl rfl ?_
  refine r_get (v := vR 53 _) (pc' := 113) fl_X8_47 d_X8_turn_110 rfl rfl (fun g => Or.inl ⟨rfl, g.2⟩) rfl ?_
  refine r_iload_n (pc' := 114) d_X8_turn_113 rfl rfl rfl ?_
  refine r_iaload (pc' := 115) d_X8_turn_114 rfl (fun _ => rfl) rfl h (fun h => ?_)
  refine l_iastore (pc' := 116) d_X8_turn_115 rfl (fun _ => rfl) (by decide) (by decide) (fun _ => rfl) rfl h (fun s1 h => ?_)
  refine l_iinc (pc' := 119) d_X8_turn_116 rfl ci_1 rfl rfl rfl h (fun x2 h => ?_)
  refine r_goto (pc' := 61) d_X8_turn_119 rfl ?_
  exact WM.drop [] rfl (hK61 _ _ _ _ h)
def f_X8_turn_61 : Nat → Int32 → Int32 → Int32 → SS → Option (Int32 × SS)
  | 0, _, _, _, _ => none
  | n + 1, v1, v2, v3, σ => if (8 : Int32) ≤ v3 then (some ((1 : Int32), σ)) else (if v2 = 0 then (chk (inr v3 8) (f_X8_turn_108 (f_X8_turn_61 n) v1 v2 v3 ((8 : Int32) * v1) (σ.1 43 0 (ix v3)) σ)) else (if v2 = (1 : Int32) then (chk (inr v3 8) (f_X8_turn_108 (f_X8_turn_61 n) v1 v2 v3 ((8 : Int32) * v1) (σ.1 44 0 (ix v3)) σ)) else (chk (inr v3 8) (f_X8_turn_108 (f_X8_turn_61 n) v1 v2 v3 ((8 : Int32) * v1) (σ.1 45 0 (ix v3)) σ))))
set_option maxRecDepth 20000 in
theorem t_X8_turn_61 {d : Nat} {X : MX} {Y : MY} {b : Nat × Nat} {r : Int32} {σ' : SS} : ∀ (n : Nat) (v1 : Int32) (v2 : Int32) (v3 : Int32) (σ : SS), f_X8_turn_61 n v1 v2 v3 σ = some (r, σ') → WM (d + 2) X Y b mi_X8_turn 61 [some (vR 25 0), some (vI v1), some (vI v2), some (vI v3)] [] σ (some (vI r), σ') := by
  intro n
  induction n with
  | zero => intro _ _ _ σ h; cases h
  | succ n ih =>
    intro v1 v2 v3 σ h
    rw [f_X8_turn_61] at h
    refine r_iload_n (pc' := 62) d_X8_turn_61 rfl rfl rfl ?_
    refine r_bipush (pc' := 64) d_X8_turn_62 cb_8 rfl ?_
    refine r_icmp_ge (pcT := 122) (pc' := 67) d_X8_turn_64 rfl rfl h (fun _ h => ?_) (fun _ h => ?_)
    · refine r_iconst (pc' := 123) d_X8_turn_122 ci_1 rfl ?_
      exact r_iret d_X8_turn_123 rfl h
    · refine r_aload_n (pc' := 68) d_X8_turn_67 rfl rfl rfl ?_
      refine r_get (v := vR 48 _) (pc' := 71) fl_X8_32 d_X8_turn_68 rfl rfl (fun g => Or.inl ⟨rfl, g.2⟩) rfl ?_
      refine r_bipush (pc' := 73) d_X8_turn_71 cb_8 rfl ?_
      refine r_iload_n (pc' := 74) d_X8_turn_73 rfl rfl rfl ?_
      refine r_imul (pc' := 75) d_X8_turn_74 rfl ?_
      refine r_iload_n (pc' := 76) d_X8_turn_75 rfl rfl rfl ?_
      refine r_if_ne (pcT := 88) (pc' := 79) d_X8_turn_76 rfl rfl h (fun _ h => ?_) (fun _ h => ?_)
      · refine r_aload_n (pc' := 80) d_X8_turn_79 rfl rfl rfl ?_
        refine r_get (v := vR 43 _) (pc' := 83) fl_X8_19 d_X8_turn_80 rfl rfl (fun g => Or.inl ⟨rfl, g.2⟩) rfl ?_
        refine r_iload_n (pc' := 84) d_X8_turn_83 rfl rfl rfl ?_
        refine r_iaload (pc' := 85) d_X8_turn_84 rfl (fun _ => rfl) rfl h (fun h => ?_)
        refine r_goto (pc' := 108) d_X8_turn_85 rfl ?_
        exact WM.drop [] rfl (t_X8_turn_108 ih h)
      · refine r_iload_n (pc' := 89) d_X8_turn_88 rfl rfl rfl ?_
        refine r_iconst (pc' := 90) d_X8_turn_89 ci_1 rfl ?_
        refine r_icmp_ne (pcT := 102) (pc' := 93) d_X8_turn_90 rfl rfl h (fun _ h => ?_) (fun _ h => ?_)
        · refine r_aload_n (pc' := 94) d_X8_turn_93 rfl rfl rfl ?_
          refine r_get (v := vR 44 _) (pc' := 97) fl_X8_22 d_X8_turn_94 rfl rfl (fun g => Or.inl ⟨rfl, g.2⟩) rfl ?_
          refine r_iload_n (pc' := 98) d_X8_turn_97 rfl rfl rfl ?_
          refine r_iaload (pc' := 99) d_X8_turn_98 rfl (fun _ => rfl) rfl h (fun h => ?_)
          refine r_goto (pc' := 108) d_X8_turn_99 rfl ?_
          exact WM.drop [] rfl (t_X8_turn_108 ih h)
        · refine r_aload_n (pc' := 103) d_X8_turn_102 rfl rfl rfl ?_
          refine r_get (v := vR 45 _) (pc' := 106) fl_X8_25 d_X8_turn_103 rfl rfl (fun g => Or.inl ⟨rfl, g.2⟩) rfl ?_
          refine r_iload_n (pc' := 107) d_X8_turn_106 rfl rfl rfl ?_
          refine r_iaload (pc' := 108) d_X8_turn_107 rfl (fun _ => rfl) rfl h (fun h => ?_)
          exact WM.drop [] rfl (t_X8_turn_108 ih h)
def f_X8_turn_59 (v1 : Int32) (v2 : Int32) (σ : SS) : Option (Int32 × SS) := f_X8_turn_61 FU v1 v2 (0 : Int32) σ
set_option maxRecDepth 20000 in
theorem t_X8_turn_59 {d : Nat} {X : MX} {Y : MY} {b : Nat × Nat} {r : Int32} {σ' : SS} {v1 : Int32} {v2 : Int32} {σ : SS} (h : f_X8_turn_59 v1 v2 σ = some (r, σ')) : WM (d + 2) X Y b mi_X8_turn 59 [some (vR 25 0), some (vI v1), some (vI v2), none] [] σ (some (vI r), σ') := by
  rw [f_X8_turn_59] at h
  refine r_iconst (pc' := 60) d_X8_turn_59 ci_0 rfl ?_
  refine r_istore_n (pc' := 61) d_X8_turn_60 rfl rfl rfl rfl ?_
  exact WM.drop [] rfl (t_X8_turn_61 _ _ _ _ _ h)
def f_X8_turn_30 : Nat → Int32 → Int32 → Int32 → SS → Option (Int32 × SS)
  | 0, _, _, _, _ => none
  | n + 1, v1, v2, v3, σ => if (8 : Int32) ≤ v3 then (f_X8_turn_59 v1 v2 σ) else (chk (inr (((8 : Int32) * v1) + v3) 480) (chk (inr v3 8) (lt_ (up σ 53 0 (ix v3) (σ.1 48 0 (ix (((8 : Int32) * v1) + v3)))) (fun s1 => lt_ (v3 + (1 : Int32)) (fun x2 => f_X8_turn_30 n v1 v2 x2 s1)))))
set_option maxRecDepth 20000 in
theorem t_X8_turn_30 {d : Nat} {X : MX} {Y : MY} {b : Nat × Nat} {r : Int32} {σ' : SS} : ∀ (n : Nat) (v1 : Int32) (v2 : Int32) (v3 : Int32) (σ : SS), f_X8_turn_30 n v1 v2 v3 σ = some (r, σ') → WM (d + 2) X Y b mi_X8_turn 30 [some (vR 25 0), some (vI v1), some (vI v2), some (vI v3)] [] σ (some (vI r), σ') := by
  intro n
  induction n with
  | zero => intro _ _ _ σ h; cases h
  | succ n ih =>
    intro v1 v2 v3 σ h
    rw [f_X8_turn_30] at h
    refine r_iload_n (pc' := 31) d_X8_turn_30 rfl rfl rfl ?_
    refine r_bipush (pc' := 33) d_X8_turn_31 cb_8 rfl ?_
    refine r_icmp_ge (pcT := 59) (pc' := 36) d_X8_turn_33 rfl rfl h (fun _ h => ?_) (fun _ h => ?_)
    · exact WM.drop [3] rfl (t_X8_turn_59 h)
    · refine r_aload_n (pc' := 37) d_X8_turn_36 rfl rfl rfl ?_
      refine r_get (v := vR 53 _) (pc' := 40) fl_X8_47 d_X8_turn_37 rfl rfl (fun g => Or.inl ⟨rfl, g.2⟩) rfl ?_
      refine r_iload_n (pc' := 41) d_X8_turn_40 rfl rfl rfl ?_
      refine r_aload_n (pc' := 42) d_X8_turn_41 rfl rfl rfl ?_
      refine r_get (v := vR 48 _) (pc' := 45) fl_X8_32 d_X8_turn_42 rfl rfl (fun g => Or.inl ⟨rfl, g.2⟩) rfl ?_
      refine r_bipush (pc' := 47) d_X8_turn_45 cb_8 rfl ?_
      refine r_iload_n (pc' := 48) d_X8_turn_47 rfl rfl rfl ?_
      refine r_imul (pc' := 49) d_X8_turn_48 rfl ?_
      refine r_iload_n (pc' := 50) d_X8_turn_49 rfl rfl rfl ?_
      refine r_iadd (pc' := 51) d_X8_turn_50 rfl ?_
      refine r_iaload (pc' := 52) d_X8_turn_51 rfl (fun _ => rfl) rfl h (fun h => ?_)
      refine l_iastore (pc' := 53) d_X8_turn_52 rfl (fun _ => rfl) (by decide) (by decide) (fun _ => rfl) rfl h (fun s1 h => ?_)
      refine l_iinc (pc' := 56) d_X8_turn_53 rfl ci_1 rfl rfl rfl h (fun x2 h => ?_)
      refine r_goto (pc' := 30) d_X8_turn_56 rfl ?_
      exact WM.drop [] rfl (ih _ _ _ _ h)
def f_X8_turn (v1 : Int32) (v2 : Int32) (σ : SS) : Option (Int32 × SS) := cal (f_X8_isPiece v1 σ) (fun x2 s1 => if x2 = 0 then (some ((-1 : Int32), s1)) else (cal (f_X8_in (Int32.toInt64 v2) (0 : Int64) (2 : Int64) s1) (fun x4 s3 => if x4 = 0 then (some ((-1 : Int32), s3)) else (cal (f_X8_keep (2 : Int32) v1 s3) (fun _ s5 => f_X8_turn_30 FU v1 v2 (0 : Int32) s5)))))
set_option maxRecDepth 20000 in
theorem t_X8_turn {d : Nat} {b : Nat × Nat} {v1 : Int32} {v2 : Int32} {σ : SS} {r : Int32} {σ' : SS} (h : f_X8_turn v1 v2 σ = some (r, σ')) : MM (d + 2) b mi_X8_turn [vR 25 0, vI v1, vI v2] σ (some (vI r), σ') := by
  refine MM.of (lv := [some (vR 25 0), some (vI v1), some (vI v2), none]) (by decide +kernel) rfl rfl (fun X Y => ?_)
  rw [f_X8_turn] at h
  refine r_aload_n (pc' := 1) d_X8_turn_0 rfl rfl rfl ?_
  refine r_iload_n (pc' := 2) d_X8_turn_1 rfl rfl rfl ?_
  refine v1_i (mc := mi_X8_isPiece) (bc := (0, 0)) (b' := _) (pc' := 5) cw_X8_192 d_X8_turn_2 rfl rfl rfl (Nat.zero_add _).symm (Nat.zero_add _).symm rfl h (fun _ _ e => t_X8_isPiece e) (fun x2 s1 h => ?_)
  refine r_if_eq (pcT := 20) (pc' := 8) d_X8_turn_5 rfl rfl h (fun _ h => ?_) (fun _ h => ?_)
  · refine r_iconst (pc' := 21) d_X8_turn_20 ci_m1 rfl ?_
    exact r_iret d_X8_turn_21 rfl h
  · refine r_iload_n (pc' := 9) d_X8_turn_8 rfl rfl rfl ?_
    refine r_i2l (pc' := 10) d_X8_turn_9 rfl ?_
    refine r_lconst (pc' := 11) (x := 0) d_X8_turn_10 rfl rfl ?_
    refine r_ldc2 (pc' := 14) k_X8_206 d_X8_turn_11 rfl ?_
    refine s3_i (mc := mi_X8_in) (bc := (0, 0)) (b' := _) (pc' := 17) cw_X8_139 d_X8_turn_14 rfl (Nat.zero_add _).symm (Nat.zero_add _).symm rfl h (fun _ _ e => t_X8_in e) (fun x4 s3 h => ?_)
    refine r_if_ne (pcT := 22) (pc' := 20) d_X8_turn_17 rfl rfl h (fun _ h => ?_) (fun _ h => ?_)
    · refine r_iconst (pc' := 21) d_X8_turn_20 ci_m1 rfl ?_
      exact r_iret d_X8_turn_21 rfl h
    · refine r_aload_n (pc' := 23) d_X8_turn_22 rfl rfl rfl ?_
      refine r_iconst (pc' := 24) d_X8_turn_23 ci_2 rfl ?_
      refine r_iload_n (pc' := 25) d_X8_turn_24 rfl rfl rfl ?_
      refine v2_v (mc := mi_X8_keep) (bc := (0, 0)) (b' := _) (pc' := 28) cw_X8_186 d_X8_turn_25 rfl rfl rfl (Nat.zero_add _).symm (Nat.zero_add _).symm rfl h (fun _ _ e => t_X8_keep e) (fun _ s5 h => ?_)
      refine r_iconst (pc' := 29) d_X8_turn_28 ci_0 rfl ?_
      refine r_istore_n (pc' := 30) d_X8_turn_29 rfl rfl rfl rfl ?_
      exact WM.drop [] rfl (t_X8_turn_30 _ _ _ _ _ h)
/-! OctagonYardModel.scrap(I)I -/
def mi_X8_scrap : MI := (yX8_scrap, cX8_scrap, 2, (some .int))
theorem d_X8_scrap_0 : decode mi_X8_scrap.2.1 0 = .ok (.aload_n 0, 1) := by decide +kernel
theorem d_X8_scrap_1 : decode mi_X8_scrap.2.1 1 = .ok (.iload_n 1, 1) := by decide +kernel
theorem d_X8_scrap_2 : decode mi_X8_scrap.2.1 2 = .ok (.invokevirtual 192, 3) := by decide +kernel
theorem d_X8_scrap_5 : decode mi_X8_scrap.2.1 5 = .ok (.ifCond .ne 5, 3) := by decide +kernel
theorem d_X8_scrap_8 : decode mi_X8_scrap.2.1 8 = .ok (.iconst (-1), 1) := by decide +kernel
theorem d_X8_scrap_9 : decode mi_X8_scrap.2.1 9 = .ok (.ireturn, 1) := by decide +kernel
theorem d_X8_scrap_10 : decode mi_X8_scrap.2.1 10 = .ok (.aload_n 0, 1) := by decide +kernel
theorem d_X8_scrap_11 : decode mi_X8_scrap.2.1 11 = .ok (.iload_n 1, 1) := by decide +kernel
theorem d_X8_scrap_12 : decode mi_X8_scrap.2.1 12 = .ok (.invokevirtual 180, 3) := by decide +kernel
theorem d_X8_scrap_15 : decode mi_X8_scrap.2.1 15 = .ok (.ifCond .eq 6, 3) := by decide +kernel
theorem d_X8_scrap_18 : decode mi_X8_scrap.2.1 18 = .ok (.bipush (-2), 2) := by decide +kernel
theorem d_X8_scrap_20 : decode mi_X8_scrap.2.1 20 = .ok (.ireturn, 1) := by decide +kernel
theorem d_X8_scrap_21 : decode mi_X8_scrap.2.1 21 = .ok (.aload_n 0, 1) := by decide +kernel
theorem d_X8_scrap_22 : decode mi_X8_scrap.2.1 22 = .ok (.iconst 2, 1) := by decide +kernel
theorem d_X8_scrap_23 : decode mi_X8_scrap.2.1 23 = .ok (.iload_n 1, 1) := by decide +kernel
theorem d_X8_scrap_24 : decode mi_X8_scrap.2.1 24 = .ok (.invokevirtual 186, 3) := by decide +kernel
theorem d_X8_scrap_27 : decode mi_X8_scrap.2.1 27 = .ok (.aload_n 0, 1) := by decide +kernel
theorem d_X8_scrap_28 : decode mi_X8_scrap.2.1 28 = .ok (.getfield 28, 3) := by decide +kernel
theorem d_X8_scrap_31 : decode mi_X8_scrap.2.1 31 = .ok (.iload_n 1, 1) := by decide +kernel
theorem d_X8_scrap_32 : decode mi_X8_scrap.2.1 32 = .ok (.iconst 0, 1) := by decide +kernel
theorem d_X8_scrap_33 : decode mi_X8_scrap.2.1 33 = .ok (.bastore, 1) := by decide +kernel
theorem d_X8_scrap_34 : decode mi_X8_scrap.2.1 34 = .ok (.iconst 1, 1) := by decide +kernel
theorem d_X8_scrap_35 : decode mi_X8_scrap.2.1 35 = .ok (.ireturn, 1) := by decide +kernel
def f_X8_scrap (v1 : Int32) (σ : SS) : Option (Int32 × SS) := cal (f_X8_isPiece v1 σ) (fun x2 s1 => if x2 = 0 then (some ((-1 : Int32), s1)) else (cal (f_X8_stands v1 s1) (fun x4 s3 => if x4 = 0 then (cal (f_X8_keep (2 : Int32) v1 s3) (fun _ s5 => chk (inr v1 60) (lt_ (up s5 47 0 (ix v1) (0 : Int32)) (fun s6 => some ((1 : Int32), s6))))) else (some ((-2 : Int32), s3)))))
set_option maxRecDepth 20000 in
theorem t_X8_scrap {d : Nat} {b : Nat × Nat} {v1 : Int32} {σ : SS} {r : Int32} {σ' : SS} (h : f_X8_scrap v1 σ = some (r, σ')) : MM (d + 2) b mi_X8_scrap [vR 25 0, vI v1] σ (some (vI r), σ') := by
  refine MM.of (lv := [some (vR 25 0), some (vI v1)]) (by decide +kernel) rfl rfl (fun X Y => ?_)
  rw [f_X8_scrap] at h
  refine r_aload_n (pc' := 1) d_X8_scrap_0 rfl rfl rfl ?_
  refine r_iload_n (pc' := 2) d_X8_scrap_1 rfl rfl rfl ?_
  refine v1_i (mc := mi_X8_isPiece) (bc := (0, 0)) (b' := _) (pc' := 5) cw_X8_192 d_X8_scrap_2 rfl rfl rfl (Nat.zero_add _).symm (Nat.zero_add _).symm rfl h (fun _ _ e => t_X8_isPiece e) (fun x2 s1 h => ?_)
  refine r_if_ne (pcT := 10) (pc' := 8) d_X8_scrap_5 rfl rfl h (fun _ h => ?_) (fun _ h => ?_)
  · refine r_iconst (pc' := 9) d_X8_scrap_8 ci_m1 rfl ?_
    exact r_iret d_X8_scrap_9 rfl h
  · refine r_aload_n (pc' := 11) d_X8_scrap_10 rfl rfl rfl ?_
    refine r_iload_n (pc' := 12) d_X8_scrap_11 rfl rfl rfl ?_
    refine v1_i (mc := mi_X8_stands) (bc := (0, 0)) (b' := _) (pc' := 15) cw_X8_180 d_X8_scrap_12 rfl rfl rfl (Nat.zero_add _).symm (Nat.zero_add _).symm rfl h (fun _ _ e => t_X8_stands e) (fun x4 s3 h => ?_)
    refine r_if_eq (pcT := 21) (pc' := 18) d_X8_scrap_15 rfl rfl h (fun _ h => ?_) (fun _ h => ?_)
    · refine r_aload_n (pc' := 22) d_X8_scrap_21 rfl rfl rfl ?_
      refine r_iconst (pc' := 23) d_X8_scrap_22 ci_2 rfl ?_
      refine r_iload_n (pc' := 24) d_X8_scrap_23 rfl rfl rfl ?_
      refine v2_v (mc := mi_X8_keep) (bc := (0, 0)) (b' := _) (pc' := 27) cw_X8_186 d_X8_scrap_24 rfl rfl rfl (Nat.zero_add _).symm (Nat.zero_add _).symm rfl h (fun _ _ e => t_X8_keep e) (fun _ s5 h => ?_)
      refine r_aload_n (pc' := 28) d_X8_scrap_27 rfl rfl rfl ?_
      refine r_get (v := vR 47 _) (pc' := 31) fl_X8_28 d_X8_scrap_28 rfl rfl (fun g => Or.inl ⟨rfl, g.2⟩) rfl ?_
      refine r_iload_n (pc' := 32) d_X8_scrap_31 rfl rfl rfl ?_
      refine r_iconst (pc' := 33) d_X8_scrap_32 ci_0 rfl ?_
      refine l_bastore (pc' := 34) d_X8_scrap_33 rfl (fun _ => rfl) (by decide) (by decide) (fun _ => rfl) (Or.inl rfl) rfl h (fun s6 h => ?_)
      refine r_iconst (pc' := 35) d_X8_scrap_34 ci_1 rfl ?_
      exact r_iret d_X8_scrap_35 rfl h
    · refine r_bipush (pc' := 20) d_X8_scrap_18 cb_m2 rfl ?_
      exact r_iret d_X8_scrap_20 rfl h
/-! OctagonYardModel.bound(II)I -/
def mi_X8_bound : MI := (yX8_bound, cX8_bound, 3, (some .int))
theorem d_X8_bound_0 : decode mi_X8_bound.2.1 0 = .ok (.aload_n 0, 1) := by decide +kernel
theorem d_X8_bound_1 : decode mi_X8_bound.2.1 1 = .ok (.iload_n 1, 1) := by decide +kernel
theorem d_X8_bound_2 : decode mi_X8_bound.2.1 2 = .ok (.invokevirtual 192, 3) := by decide +kernel
theorem d_X8_bound_5 : decode mi_X8_bound.2.1 5 = .ok (.ifCond .eq 29, 3) := by decide +kernel
theorem d_X8_bound_8 : decode mi_X8_bound.2.1 8 = .ok (.iload_n 2, 1) := by decide +kernel
theorem d_X8_bound_9 : decode mi_X8_bound.2.1 9 = .ok (.i2l, 1) := by decide +kernel
theorem d_X8_bound_10 : decode mi_X8_bound.2.1 10 = .ok (.lconst 0, 1) := by decide +kernel
theorem d_X8_bound_11 : decode mi_X8_bound.2.1 11 = .ok (.ldc2_w 208, 3) := by decide +kernel
theorem d_X8_bound_14 : decode mi_X8_bound.2.1 14 = .ok (.invokestatic 139, 3) := by decide +kernel
theorem d_X8_bound_17 : decode mi_X8_bound.2.1 17 = .ok (.ifCond .eq 17, 3) := by decide +kernel
theorem d_X8_bound_20 : decode mi_X8_bound.2.1 20 = .ok (.aload_n 0, 1) := by decide +kernel
theorem d_X8_bound_21 : decode mi_X8_bound.2.1 21 = .ok (.getfield 32, 3) := by decide +kernel
theorem d_X8_bound_24 : decode mi_X8_bound.2.1 24 = .ok (.bipush 8, 2) := by decide +kernel
theorem d_X8_bound_26 : decode mi_X8_bound.2.1 26 = .ok (.iload_n 1, 1) := by decide +kernel
theorem d_X8_bound_27 : decode mi_X8_bound.2.1 27 = .ok (.imul, 1) := by decide +kernel
theorem d_X8_bound_28 : decode mi_X8_bound.2.1 28 = .ok (.iload_n 2, 1) := by decide +kernel
theorem d_X8_bound_29 : decode mi_X8_bound.2.1 29 = .ok (.iadd, 1) := by decide +kernel
theorem d_X8_bound_30 : decode mi_X8_bound.2.1 30 = .ok (.iaload, 1) := by decide +kernel
theorem d_X8_bound_31 : decode mi_X8_bound.2.1 31 = .ok (.goto 5, 3) := by decide +kernel
theorem d_X8_bound_34 : decode mi_X8_bound.2.1 34 = .ok (.ldc 210, 2) := by decide +kernel
theorem d_X8_bound_36 : decode mi_X8_bound.2.1 36 = .ok (.ireturn, 1) := by decide +kernel
theorem k_X8_208 : Cond.constantLong RX8 208 (7) ∈ mtbl := by decide +kernel
theorem k_X8_210 : Cond.constant RX8 210 (100000) ∈ mtbl := by decide +kernel
def f_X8_bound (v1 : Int32) (v2 : Int32) (σ : SS) : Option (Int32 × SS) := cal (f_X8_isPiece v1 σ) (fun x2 s1 => if x2 = 0 then (some ((100000 : Int32), s1)) else (cal (f_X8_in (Int32.toInt64 v2) (0 : Int64) (7 : Int64) s1) (fun x4 s3 => if x4 = 0 then (some ((100000 : Int32), s3)) else (chk (inr (((8 : Int32) * v1) + v2) 480) (some ((s3.1 48 0 (ix (((8 : Int32) * v1) + v2))), s3))))))
set_option maxRecDepth 20000 in
theorem t_X8_bound {d : Nat} {b : Nat × Nat} {v1 : Int32} {v2 : Int32} {σ : SS} {r : Int32} {σ' : SS} (h : f_X8_bound v1 v2 σ = some (r, σ')) : MM (d + 2) b mi_X8_bound [vR 25 0, vI v1, vI v2] σ (some (vI r), σ') := by
  refine MM.of (lv := [some (vR 25 0), some (vI v1), some (vI v2)]) (by decide +kernel) rfl rfl (fun X Y => ?_)
  rw [f_X8_bound] at h
  refine r_aload_n (pc' := 1) d_X8_bound_0 rfl rfl rfl ?_
  refine r_iload_n (pc' := 2) d_X8_bound_1 rfl rfl rfl ?_
  refine v1_i (mc := mi_X8_isPiece) (bc := (0, 0)) (b' := _) (pc' := 5) cw_X8_192 d_X8_bound_2 rfl rfl rfl (Nat.zero_add _).symm (Nat.zero_add _).symm rfl h (fun _ _ e => t_X8_isPiece e) (fun x2 s1 h => ?_)
  refine r_if_eq (pcT := 34) (pc' := 8) d_X8_bound_5 rfl rfl h (fun _ h => ?_) (fun _ h => ?_)
  · refine r_ldc (pc' := 36) k_X8_210 d_X8_bound_34 rfl ?_
    exact r_iret d_X8_bound_36 rfl h
  · refine r_iload_n (pc' := 9) d_X8_bound_8 rfl rfl rfl ?_
    refine r_i2l (pc' := 10) d_X8_bound_9 rfl ?_
    refine r_lconst (pc' := 11) (x := 0) d_X8_bound_10 rfl rfl ?_
    refine r_ldc2 (pc' := 14) k_X8_208 d_X8_bound_11 rfl ?_
    refine s3_i (mc := mi_X8_in) (bc := (0, 0)) (b' := _) (pc' := 17) cw_X8_139 d_X8_bound_14 rfl (Nat.zero_add _).symm (Nat.zero_add _).symm rfl h (fun _ _ e => t_X8_in e) (fun x4 s3 h => ?_)
    refine r_if_eq (pcT := 34) (pc' := 20) d_X8_bound_17 rfl rfl h (fun _ h => ?_) (fun _ h => ?_)
    · refine r_ldc (pc' := 36) k_X8_210 d_X8_bound_34 rfl ?_
      exact r_iret d_X8_bound_36 rfl h
    · refine r_aload_n (pc' := 21) d_X8_bound_20 rfl rfl rfl ?_
      refine r_get (v := vR 48 _) (pc' := 24) fl_X8_32 d_X8_bound_21 rfl rfl (fun g => Or.inl ⟨rfl, g.2⟩) rfl ?_
      refine r_bipush (pc' := 26) d_X8_bound_24 cb_8 rfl ?_
      refine r_iload_n (pc' := 27) d_X8_bound_26 rfl rfl rfl ?_
      refine r_imul (pc' := 28) d_X8_bound_27 rfl ?_
      refine r_iload_n (pc' := 29) d_X8_bound_28 rfl rfl rfl ?_
      refine r_iadd (pc' := 30) d_X8_bound_29 rfl ?_
      refine r_iaload (pc' := 31) d_X8_bound_30 rfl (fun _ => rfl) rfl h (fun h => ?_)
      refine r_goto (pc' := 36) d_X8_bound_31 rfl ?_
      exact r_iret d_X8_bound_36 rfl h
/-! OctagonYardModel.kindNow()I -/
def mi_X8_kindNow : MI := (yX8_kindNow, cX8_kindNow, 4, (some .int))
theorem d_X8_kindNow_0 : decode mi_X8_kindNow.2.1 0 = .ok (.aload_n 0, 1) := by decide +kernel
theorem d_X8_kindNow_1 : decode mi_X8_kindNow.2.1 1 = .ok (.getfield 157, 3) := by decide +kernel
theorem d_X8_kindNow_4 : decode mi_X8_kindNow.2.1 4 = .ok (.iconst 4, 1) := by decide +kernel
theorem d_X8_kindNow_5 : decode mi_X8_kindNow.2.1 5 = .ok (.if_icmp .ne 94, 3) := by decide +kernel
theorem d_X8_kindNow_8 : decode mi_X8_kindNow.2.1 8 = .ok (.iconst 1, 1) := by decide +kernel
theorem d_X8_kindNow_9 : decode mi_X8_kindNow.2.1 9 = .ok (.istore_n 1, 1) := by decide +kernel
theorem d_X8_kindNow_10 : decode mi_X8_kindNow.2.1 10 = .ok (.iconst 1, 1) := by decide +kernel
theorem d_X8_kindNow_11 : decode mi_X8_kindNow.2.1 11 = .ok (.istore_n 2, 1) := by decide +kernel
theorem d_X8_kindNow_12 : decode mi_X8_kindNow.2.1 12 = .ok (.iconst 0, 1) := by decide +kernel
theorem d_X8_kindNow_13 : decode mi_X8_kindNow.2.1 13 = .ok (.istore_n 3, 1) := by decide +kernel
theorem d_X8_kindNow_14 : decode mi_X8_kindNow.2.1 14 = .ok (.iload_n 3, 1) := by decide +kernel
theorem d_X8_kindNow_15 : decode mi_X8_kindNow.2.1 15 = .ok (.iconst 4, 1) := by decide +kernel
theorem d_X8_kindNow_16 : decode mi_X8_kindNow.2.1 16 = .ok (.if_icmp .ge 65, 3) := by decide +kernel
theorem d_X8_kindNow_19 : decode mi_X8_kindNow.2.1 19 = .ok (.iload_n 1, 1) := by decide +kernel
theorem d_X8_kindNow_20 : decode mi_X8_kindNow.2.1 20 = .ok (.ifCond .eq 19, 3) := by decide +kernel
theorem d_X8_kindNow_23 : decode mi_X8_kindNow.2.1 23 = .ok (.aload_n 0, 1) := by decide +kernel
theorem d_X8_kindNow_24 : decode mi_X8_kindNow.2.1 24 = .ok (.getfield 56, 3) := by decide +kernel
theorem d_X8_kindNow_27 : decode mi_X8_kindNow.2.1 27 = .ok (.iload_n 3, 1) := by decide +kernel
theorem d_X8_kindNow_28 : decode mi_X8_kindNow.2.1 28 = .ok (.iaload, 1) := by decide +kernel
theorem d_X8_kindNow_29 : decode mi_X8_kindNow.2.1 29 = .ok (.iconst 4, 1) := by decide +kernel
theorem d_X8_kindNow_30 : decode mi_X8_kindNow.2.1 30 = .ok (.irem, 1) := by decide +kernel
theorem d_X8_kindNow_31 : decode mi_X8_kindNow.2.1 31 = .ok (.iconst 2, 1) := by decide +kernel
theorem d_X8_kindNow_32 : decode mi_X8_kindNow.2.1 32 = .ok (.if_icmp .ge 7, 3) := by decide +kernel
theorem d_X8_kindNow_35 : decode mi_X8_kindNow.2.1 35 = .ok (.iconst 1, 1) := by decide +kernel
theorem d_X8_kindNow_36 : decode mi_X8_kindNow.2.1 36 = .ok (.goto 4, 3) := by decide +kernel
theorem d_X8_kindNow_39 : decode mi_X8_kindNow.2.1 39 = .ok (.iconst 0, 1) := by decide +kernel
theorem d_X8_kindNow_40 : decode mi_X8_kindNow.2.1 40 = .ok (.istore_n 1, 1) := by decide +kernel
theorem d_X8_kindNow_41 : decode mi_X8_kindNow.2.1 41 = .ok (.iload_n 2, 1) := by decide +kernel
theorem d_X8_kindNow_42 : decode mi_X8_kindNow.2.1 42 = .ok (.ifCond .eq 31, 3) := by decide +kernel
theorem d_X8_kindNow_45 : decode mi_X8_kindNow.2.1 45 = .ok (.aload_n 0, 1) := by decide +kernel
theorem d_X8_kindNow_46 : decode mi_X8_kindNow.2.1 46 = .ok (.getfield 56, 3) := by decide +kernel
theorem d_X8_kindNow_49 : decode mi_X8_kindNow.2.1 49 = .ok (.iload_n 3, 1) := by decide +kernel
theorem d_X8_kindNow_50 : decode mi_X8_kindNow.2.1 50 = .ok (.iaload, 1) := by decide +kernel
theorem d_X8_kindNow_51 : decode mi_X8_kindNow.2.1 51 = .ok (.iconst 4, 1) := by decide +kernel
theorem d_X8_kindNow_52 : decode mi_X8_kindNow.2.1 52 = .ok (.iadd, 1) := by decide +kernel
theorem d_X8_kindNow_53 : decode mi_X8_kindNow.2.1 53 = .ok (.bipush 8, 2) := by decide +kernel
theorem d_X8_kindNow_55 : decode mi_X8_kindNow.2.1 55 = .ok (.irem, 1) := by decide +kernel
theorem d_X8_kindNow_56 : decode mi_X8_kindNow.2.1 56 = .ok (.aload_n 0, 1) := by decide +kernel
theorem d_X8_kindNow_57 : decode mi_X8_kindNow.2.1 57 = .ok (.getfield 56, 3) := by decide +kernel
theorem d_X8_kindNow_60 : decode mi_X8_kindNow.2.1 60 = .ok (.iload_n 3, 1) := by decide +kernel
theorem d_X8_kindNow_61 : decode mi_X8_kindNow.2.1 61 = .ok (.iconst 2, 1) := by decide +kernel
theorem d_X8_kindNow_62 : decode mi_X8_kindNow.2.1 62 = .ok (.iadd, 1) := by decide +kernel
theorem d_X8_kindNow_63 : decode mi_X8_kindNow.2.1 63 = .ok (.iconst 4, 1) := by decide +kernel
theorem d_X8_kindNow_64 : decode mi_X8_kindNow.2.1 64 = .ok (.irem, 1) := by decide +kernel
theorem d_X8_kindNow_65 : decode mi_X8_kindNow.2.1 65 = .ok (.iaload, 1) := by decide +kernel
theorem d_X8_kindNow_66 : decode mi_X8_kindNow.2.1 66 = .ok (.if_icmp .ne 7, 3) := by decide +kernel
theorem d_X8_kindNow_69 : decode mi_X8_kindNow.2.1 69 = .ok (.iconst 1, 1) := by decide +kernel
theorem d_X8_kindNow_70 : decode mi_X8_kindNow.2.1 70 = .ok (.goto 4, 3) := by decide +kernel
theorem d_X8_kindNow_73 : decode mi_X8_kindNow.2.1 73 = .ok (.iconst 0, 1) := by decide +kernel
theorem d_X8_kindNow_74 : decode mi_X8_kindNow.2.1 74 = .ok (.istore_n 2, 1) := by decide +kernel
theorem d_X8_kindNow_75 : decode mi_X8_kindNow.2.1 75 = .ok (.iinc 3 1, 3) := by decide +kernel
theorem d_X8_kindNow_78 : decode mi_X8_kindNow.2.1 78 = .ok (.goto (-64), 3) := by decide +kernel
theorem d_X8_kindNow_81 : decode mi_X8_kindNow.2.1 81 = .ok (.iload_n 1, 1) := by decide +kernel
theorem d_X8_kindNow_82 : decode mi_X8_kindNow.2.1 82 = .ok (.ifCond .eq 7, 3) := by decide +kernel
theorem d_X8_kindNow_85 : decode mi_X8_kindNow.2.1 85 = .ok (.iconst 0, 1) := by decide +kernel
theorem d_X8_kindNow_86 : decode mi_X8_kindNow.2.1 86 = .ok (.goto 12, 3) := by decide +kernel
theorem d_X8_kindNow_89 : decode mi_X8_kindNow.2.1 89 = .ok (.iload_n 2, 1) := by decide +kernel
theorem d_X8_kindNow_90 : decode mi_X8_kindNow.2.1 90 = .ok (.ifCond .eq 7, 3) := by decide +kernel
theorem d_X8_kindNow_93 : decode mi_X8_kindNow.2.1 93 = .ok (.iconst 1, 1) := by decide +kernel
theorem d_X8_kindNow_94 : decode mi_X8_kindNow.2.1 94 = .ok (.goto 4, 3) := by decide +kernel
theorem d_X8_kindNow_97 : decode mi_X8_kindNow.2.1 97 = .ok (.iconst 3, 1) := by decide +kernel
theorem d_X8_kindNow_98 : decode mi_X8_kindNow.2.1 98 = .ok (.ireturn, 1) := by decide +kernel
theorem d_X8_kindNow_99 : decode mi_X8_kindNow.2.1 99 = .ok (.aload_n 0, 1) := by decide +kernel
theorem d_X8_kindNow_100 : decode mi_X8_kindNow.2.1 100 = .ok (.getfield 157, 3) := by decide +kernel
theorem d_X8_kindNow_103 : decode mi_X8_kindNow.2.1 103 = .ok (.iconst 3, 1) := by decide +kernel
theorem d_X8_kindNow_104 : decode mi_X8_kindNow.2.1 104 = .ok (.if_icmp .ne 7, 3) := by decide +kernel
theorem d_X8_kindNow_107 : decode mi_X8_kindNow.2.1 107 = .ok (.iconst 2, 1) := by decide +kernel
theorem d_X8_kindNow_108 : decode mi_X8_kindNow.2.1 108 = .ok (.goto 17, 3) := by decide +kernel
theorem d_X8_kindNow_111 : decode mi_X8_kindNow.2.1 111 = .ok (.aload_n 0, 1) := by decide +kernel
theorem d_X8_kindNow_112 : decode mi_X8_kindNow.2.1 112 = .ok (.getfield 157, 3) := by decide +kernel
theorem d_X8_kindNow_115 : decode mi_X8_kindNow.2.1 115 = .ok (.bipush 7, 2) := by decide +kernel
theorem d_X8_kindNow_117 : decode mi_X8_kindNow.2.1 117 = .ok (.if_icmp .ge 7, 3) := by decide +kernel
theorem d_X8_kindNow_120 : decode mi_X8_kindNow.2.1 120 = .ok (.iconst 4, 1) := by decide +kernel
theorem d_X8_kindNow_121 : decode mi_X8_kindNow.2.1 121 = .ok (.goto 4, 3) := by decide +kernel
theorem d_X8_kindNow_124 : decode mi_X8_kindNow.2.1 124 = .ok (.iconst 5, 1) := by decide +kernel
theorem d_X8_kindNow_125 : decode mi_X8_kindNow.2.1 125 = .ok (.ireturn, 1) := by decide +kernel
def f_X8_kindNow_81 (v1 : Int32) (v2 : Int32) (σ : SS) : Option (Int32 × SS) := if v1 = 0 then (if v2 = 0 then (some ((3 : Int32), σ)) else (some ((1 : Int32), σ))) else (some ((0 : Int32), σ))
set_option maxRecDepth 20000 in
theorem t_X8_kindNow_81 {d : Nat} {X : MX} {Y : MY} {b : Nat × Nat} {r : Int32} {σ' : SS} {v1 : Int32} {v2 : Int32} {σ : SS} (h : f_X8_kindNow_81 v1 v2 σ = some (r, σ')) : WM d X Y b mi_X8_kindNow 81 [none, some (vI v1), some (vI v2), none] [] σ (some (vI r), σ') := by
  rw [f_X8_kindNow_81] at h
  refine r_iload_n (pc' := 82) d_X8_kindNow_81 rfl rfl rfl ?_
  refine r_if_eq (pcT := 89) (pc' := 85) d_X8_kindNow_82 rfl rfl h (fun _ h => ?_) (fun _ h => ?_)
  · refine r_iload_n (pc' := 90) d_X8_kindNow_89 rfl rfl rfl ?_
    refine r_if_eq (pcT := 97) (pc' := 93) d_X8_kindNow_90 rfl rfl h (fun _ h => ?_) (fun _ h => ?_)
    · refine r_iconst (pc' := 98) d_X8_kindNow_97 ci_3 rfl ?_
      exact r_iret d_X8_kindNow_98 rfl h
    · refine r_iconst (pc' := 94) d_X8_kindNow_93 ci_1 rfl ?_
      refine r_goto (pc' := 98) d_X8_kindNow_94 rfl ?_
      exact r_iret d_X8_kindNow_98 rfl h
  · refine r_iconst (pc' := 86) d_X8_kindNow_85 ci_0 rfl ?_
    refine r_goto (pc' := 98) d_X8_kindNow_86 rfl ?_
    exact r_iret d_X8_kindNow_98 rfl h
def f_X8_kindNow_74 (K14 : Int32 → Int32 → Int32 → SS → Option (Int32 × SS)) (v1 : Int32) (v3 : Int32) (u0 : Int32) (σ : SS) : Option (Int32 × SS) := lt_ (v3 + (1 : Int32)) (fun x1 => K14 v1 u0 x1 σ)
set_option maxRecDepth 20000 in
theorem t_X8_kindNow_74 {d : Nat} {X : MX} {Y : MY} {b : Nat × Nat} {r : Int32} {σ' : SS} {K14 : Int32 → Int32 → Int32 → SS → Option (Int32 × SS)} {v1 : Int32} {v3 : Int32} {u0 : Int32} (hK14 : ∀ (v1 : Int32) (v2 : Int32) (v3 : Int32) (σ : SS), K14 v1 v2 v3 σ = some (r, σ') → WM d X Y b mi_X8_kindNow 14 [some (vR 25 0), some (vI v1), some (vI v2), some (vI v3)] [] σ (some (vI r), σ')) {σ : SS} (h : f_X8_kindNow_74 K14 v1 v3 u0 σ = some (r, σ')) : WM d X Y b mi_X8_kindNow 74 [some (vR 25 0), some (vI v1), none, some (vI v3)] [vI u0] σ (some (vI r), σ') := by
  rw [f_X8_kindNow_74] at h
  refine r_istore_n (pc' := 75) d_X8_kindNow_74 rfl rfl rfl rfl ?_
  refine l_iinc (pc' := 78) d_X8_kindNow_75 rfl ci_1 rfl rfl rfl h (fun x1 h => ?_)
  refine r_goto (pc' := 14) d_X8_kindNow_78 rfl ?_
  exact WM.drop [] rfl (hK14 _ _ _ _ h)
def f_X8_kindNow_73 (K14 : Int32 → Int32 → Int32 → SS → Option (Int32 × SS)) (v1 : Int32) (v3 : Int32) (σ : SS) : Option (Int32 × SS) := f_X8_kindNow_74 K14 v1 v3 (0 : Int32) σ
set_option maxRecDepth 20000 in
theorem t_X8_kindNow_73 {d : Nat} {X : MX} {Y : MY} {b : Nat × Nat} {r : Int32} {σ' : SS} {K14 : Int32 → Int32 → Int32 → SS → Option (Int32 × SS)} {v1 : Int32} {v3 : Int32} (hK14 : ∀ (v1 : Int32) (v2 : Int32) (v3 : Int32) (σ : SS), K14 v1 v2 v3 σ = some (r, σ') → WM d X Y b mi_X8_kindNow 14 [some (vR 25 0), some (vI v1), some (vI v2), some (vI v3)] [] σ (some (vI r), σ')) {σ : SS} (h : f_X8_kindNow_73 K14 v1 v3 σ = some (r, σ')) : WM d X Y b mi_X8_kindNow 73 [some (vR 25 0), some (vI v1), none, some (vI v3)] [] σ (some (vI r), σ') := by
  rw [f_X8_kindNow_73] at h
  refine r_iconst (pc' := 74) d_X8_kindNow_73 ci_0 rfl ?_
  exact WM.drop [] rfl (t_X8_kindNow_74 hK14 h)
def f_X8_kindNow_40 (K14 : Int32 → Int32 → Int32 → SS → Option (Int32 × SS)) (v2 : Int32) (v3 : Int32) (u0 : Int32) (σ : SS) : Option (Int32 × SS) := if v2 = 0 then (f_X8_kindNow_73 K14 u0 v3 σ) else (chk (inr v3 8) (chk (inr ((v3 + (2 : Int32)) - (v3 + (2 : Int32)) / (4 : Int32) * (4 : Int32)) 8) (if (((σ.1 58 0 (ix v3)) + (4 : Int32)) - ((σ.1 58 0 (ix v3)) + (4 : Int32)) / (8 : Int32) * (8 : Int32)) = (σ.1 58 0 (ix ((v3 + (2 : Int32)) - (v3 + (2 : Int32)) / (4 : Int32) * (4 : Int32)))) then (f_X8_kindNow_74 K14 u0 v3 (1 : Int32) σ) else (f_X8_kindNow_73 K14 u0 v3 σ))))
set_option maxRecDepth 20000 in
theorem t_X8_kindNow_40 {d : Nat} {X : MX} {Y : MY} {b : Nat × Nat} {r : Int32} {σ' : SS} {K14 : Int32 → Int32 → Int32 → SS → Option (Int32 × SS)} {v2 : Int32} {v3 : Int32} {u0 : Int32} (hK14 : ∀ (v1 : Int32) (v2 : Int32) (v3 : Int32) (σ : SS), K14 v1 v2 v3 σ = some (r, σ') → WM d X Y b mi_X8_kindNow 14 [some (vR 25 0), some (vI v1), some (vI v2), some (vI v3)] [] σ (some (vI r), σ')) {σ : SS} (h : f_X8_kindNow_40 K14 v2 v3 u0 σ = some (r, σ')) : WM d X Y b mi_X8_kindNow 40 [some (vR 25 0), none, some (vI v2), some (vI v3)] [vI u0] σ (some (vI r), σ') := by
  rw [f_X8_kindNow_40] at h
  refine r_istore_n (pc' := 41) d_X8_kindNow_40 rfl rfl rfl rfl ?_
  refine r_iload_n (pc' := 42) d_X8_kindNow_41 rfl rfl rfl ?_
  refine r_if_eq (pcT := 73) (pc' := 45) d_X8_kindNow_42 rfl rfl h (fun _ h => ?_) (fun _ h => ?_)
  · exact WM.drop [2] rfl (t_X8_kindNow_73 hK14 h)
  · refine r_aload_n (pc' := 46) d_X8_kindNow_45 rfl rfl rfl ?_
    refine r_get (v := vR 58 _) (pc' := 49) fl_X8_56 d_X8_kindNow_46 rfl rfl (fun g => Or.inl ⟨rfl, g.2⟩) rfl ?_
    refine r_iload_n (pc' := 50) d_X8_kindNow_49 rfl rfl rfl ?_
    refine r_iaload (pc' := 51) d_X8_kindNow_50 rfl (fun _ => rfl) rfl h (fun h => ?_)
    refine r_iconst (pc' := 52) d_X8_kindNow_51 ci_4 rfl ?_
    refine r_iadd (pc' := 53) d_X8_kindNow_52 rfl ?_
    refine r_bipush (pc' := 55) d_X8_kindNow_53 cb_8 rfl ?_
    refine r_irem (pc' := 56) d_X8_kindNow_55 (by decide) rfl ?_
    refine r_aload_n (pc' := 57) d_X8_kindNow_56 rfl rfl rfl ?_
    refine r_get (v := vR 58 _) (pc' := 60) fl_X8_56 d_X8_kindNow_57 rfl rfl (fun g => Or.inl ⟨rfl, g.2⟩) rfl ?_
    refine r_iload_n (pc' := 61) d_X8_kindNow_60 rfl rfl rfl ?_
    refine r_iconst (pc' := 62) d_X8_kindNow_61 ci_2 rfl ?_
    refine r_iadd (pc' := 63) d_X8_kindNow_62 rfl ?_
    refine r_iconst (pc' := 64) d_X8_kindNow_63 ci_4 rfl ?_
    refine r_irem (pc' := 65) d_X8_kindNow_64 (by decide) rfl ?_
    refine r_iaload (pc' := 66) d_X8_kindNow_65 rfl (fun _ => rfl) rfl h (fun h => ?_)
    refine r_icmp_ne (pcT := 73) (pc' := 69) d_X8_kindNow_66 rfl rfl h (fun _ h => ?_) (fun _ h => ?_)
    · refine r_iconst (pc' := 70) d_X8_kindNow_69 ci_1 rfl ?_
      refine r_goto (pc' := 74) d_X8_kindNow_70 rfl ?_
      exact WM.drop [2] rfl (t_X8_kindNow_74 hK14 h)
    · exact WM.drop [2] rfl (t_X8_kindNow_73 hK14 h)
def f_X8_kindNow_39 (K14 : Int32 → Int32 → Int32 → SS → Option (Int32 × SS)) (v2 : Int32) (v3 : Int32) (σ : SS) : Option (Int32 × SS) := f_X8_kindNow_40 K14 v2 v3 (0 : Int32) σ
set_option maxRecDepth 20000 in
theorem t_X8_kindNow_39 {d : Nat} {X : MX} {Y : MY} {b : Nat × Nat} {r : Int32} {σ' : SS} {K14 : Int32 → Int32 → Int32 → SS → Option (Int32 × SS)} {v2 : Int32} {v3 : Int32} (hK14 : ∀ (v1 : Int32) (v2 : Int32) (v3 : Int32) (σ : SS), K14 v1 v2 v3 σ = some (r, σ') → WM d X Y b mi_X8_kindNow 14 [some (vR 25 0), some (vI v1), some (vI v2), some (vI v3)] [] σ (some (vI r), σ')) {σ : SS} (h : f_X8_kindNow_39 K14 v2 v3 σ = some (r, σ')) : WM d X Y b mi_X8_kindNow 39 [some (vR 25 0), none, some (vI v2), some (vI v3)] [] σ (some (vI r), σ') := by
  rw [f_X8_kindNow_39] at h
  refine r_iconst (pc' := 40) d_X8_kindNow_39 ci_0 rfl ?_
  exact WM.drop [] rfl (t_X8_kindNow_40 hK14 h)
def f_X8_kindNow_14 : Nat → Int32 → Int32 → Int32 → SS → Option (Int32 × SS)
  | 0, _, _, _, _ => none
  | n + 1, v1, v2, v3, σ => if (4 : Int32) ≤ v3 then (f_X8_kindNow_81 v1 v2 σ) else (if v1 = 0 then (f_X8_kindNow_39 (f_X8_kindNow_14 n) v2 v3 σ) else (chk (inr v3 8) (if (2 : Int32) ≤ ((σ.1 58 0 (ix v3)) - (σ.1 58 0 (ix v3)) / (4 : Int32) * (4 : Int32)) then (f_X8_kindNow_39 (f_X8_kindNow_14 n) v2 v3 σ) else (f_X8_kindNow_40 (f_X8_kindNow_14 n) v2 v3 (1 : Int32) σ))))
set_option maxRecDepth 20000 in
theorem t_X8_kindNow_14 {d : Nat} {X : MX} {Y : MY} {b : Nat × Nat} {r : Int32} {σ' : SS} : ∀ (n : Nat) (v1 : Int32) (v2 : Int32) (v3 : Int32) (σ : SS), f_X8_kindNow_14 n v1 v2 v3 σ = some (r, σ') → WM d X Y b mi_X8_kindNow 14 [some (vR 25 0), some (vI v1), some (vI v2), some (vI v3)] [] σ (some (vI r), σ') := by
  intro n
  induction n with
  | zero => intro _ _ _ σ h; cases h
  | succ n ih =>
    intro v1 v2 v3 σ h
    rw [f_X8_kindNow_14] at h
    refine r_iload_n (pc' := 15) d_X8_kindNow_14 rfl rfl rfl ?_
    refine r_iconst (pc' := 16) d_X8_kindNow_15 ci_4 rfl ?_
    refine r_icmp_ge (pcT := 81) (pc' := 19) d_X8_kindNow_16 rfl rfl h (fun _ h => ?_) (fun _ h => ?_)
    · exact WM.drop [0, 3] rfl (t_X8_kindNow_81 h)
    · refine r_iload_n (pc' := 20) d_X8_kindNow_19 rfl rfl rfl ?_
      refine r_if_eq (pcT := 39) (pc' := 23) d_X8_kindNow_20 rfl rfl h (fun _ h => ?_) (fun _ h => ?_)
      · exact WM.drop [1] rfl (t_X8_kindNow_39 ih h)
      · refine r_aload_n (pc' := 24) d_X8_kindNow_23 rfl rfl rfl ?_
        refine r_get (v := vR 58 _) (pc' := 27) fl_X8_56 d_X8_kindNow_24 rfl rfl (fun g => Or.inl ⟨rfl, g.2⟩) rfl ?_
        refine r_iload_n (pc' := 28) d_X8_kindNow_27 rfl rfl rfl ?_
        refine r_iaload (pc' := 29) d_X8_kindNow_28 rfl (fun _ => rfl) rfl h (fun h => ?_)
        refine r_iconst (pc' := 30) d_X8_kindNow_29 ci_4 rfl ?_
        refine r_irem (pc' := 31) d_X8_kindNow_30 (by decide) rfl ?_
        refine r_iconst (pc' := 32) d_X8_kindNow_31 ci_2 rfl ?_
        refine r_icmp_ge (pcT := 39) (pc' := 35) d_X8_kindNow_32 rfl rfl h (fun _ h => ?_) (fun _ h => ?_)
        · exact WM.drop [1] rfl (t_X8_kindNow_39 ih h)
        · refine r_iconst (pc' := 36) d_X8_kindNow_35 ci_1 rfl ?_
          refine r_goto (pc' := 40) d_X8_kindNow_36 rfl ?_
          exact WM.drop [1] rfl (t_X8_kindNow_40 ih h)
def f_X8_kindNow (σ : SS) : Option (Int32 × SS) := if (σ.1 25 0 17) = (4 : Int32) then (f_X8_kindNow_14 FU (1 : Int32) (1 : Int32) (0 : Int32) σ) else (if (σ.1 25 0 17) = (3 : Int32) then (some ((2 : Int32), σ)) else (if (7 : Int32) ≤ (σ.1 25 0 17) then (some ((5 : Int32), σ)) else (some ((4 : Int32), σ))))
set_option maxRecDepth 20000 in
theorem t_X8_kindNow {d : Nat} {b : Nat × Nat} {σ : SS} {r : Int32} {σ' : SS} (h : f_X8_kindNow σ = some (r, σ')) : MM d b mi_X8_kindNow [vR 25 0] σ (some (vI r), σ') := by
  refine MM.of (lv := [some (vR 25 0), none, none, none]) (by decide +kernel) rfl rfl (fun X Y => ?_)
  rw [f_X8_kindNow] at h
  refine r_aload_n (pc' := 1) d_X8_kindNow_0 rfl rfl rfl ?_
  refine r_get (v := vI _) (pc' := 4) fl_X8_157 d_X8_kindNow_1 rfl rfl (fun _ => trivial) rfl ?_
  refine r_iconst (pc' := 5) d_X8_kindNow_4 ci_4 rfl ?_
  refine r_icmp_ne (pcT := 99) (pc' := 8) d_X8_kindNow_5 rfl rfl h (fun _ h => ?_) (fun _ h => ?_)
  · refine r_iconst (pc' := 9) d_X8_kindNow_8 ci_1 rfl ?_
    refine r_istore_n (pc' := 10) d_X8_kindNow_9 rfl rfl rfl rfl ?_
    refine r_iconst (pc' := 11) d_X8_kindNow_10 ci_1 rfl ?_
    refine r_istore_n (pc' := 12) d_X8_kindNow_11 rfl rfl rfl rfl ?_
    refine r_iconst (pc' := 13) d_X8_kindNow_12 ci_0 rfl ?_
    refine r_istore_n (pc' := 14) d_X8_kindNow_13 rfl rfl rfl rfl ?_
    exact WM.drop [] rfl (t_X8_kindNow_14 _ _ _ _ _ h)
  · refine r_aload_n (pc' := 100) d_X8_kindNow_99 rfl rfl rfl ?_
    refine r_get (v := vI _) (pc' := 103) fl_X8_157 d_X8_kindNow_100 rfl rfl (fun _ => trivial) rfl ?_
    refine r_iconst (pc' := 104) d_X8_kindNow_103 ci_3 rfl ?_
    refine r_icmp_ne (pcT := 111) (pc' := 107) d_X8_kindNow_104 rfl rfl h (fun _ h => ?_) (fun _ h => ?_)
    · refine r_iconst (pc' := 108) d_X8_kindNow_107 ci_2 rfl ?_
      refine r_goto (pc' := 125) d_X8_kindNow_108 rfl ?_
      exact r_iret d_X8_kindNow_125 rfl h
    · refine r_aload_n (pc' := 112) d_X8_kindNow_111 rfl rfl rfl ?_
      refine r_get (v := vI _) (pc' := 115) fl_X8_157 d_X8_kindNow_112 rfl rfl (fun _ => trivial) rfl ?_
      refine r_bipush (pc' := 117) d_X8_kindNow_115 cb_7 rfl ?_
      refine r_icmp_ge (pcT := 124) (pc' := 120) d_X8_kindNow_117 rfl rfl h (fun _ h => ?_) (fun _ h => ?_)
      · refine r_iconst (pc' := 125) d_X8_kindNow_124 ci_5 rfl ?_
        exact r_iret d_X8_kindNow_125 rfl h
      · refine r_iconst (pc' := 121) d_X8_kindNow_120 ci_4 rfl ?_
        refine r_goto (pc' := 125) d_X8_kindNow_121 rfl ?_
        exact r_iret d_X8_kindNow_125 rfl h
/-! OctagonYardModel.kindOf(I)I -/
def mi_X8_kindOf : MI := (yX8_kindOf, cX8_kindOf, 2, (some .int))
theorem d_X8_kindOf_0 : decode mi_X8_kindOf.2.1 0 = .ok (.aload_n 0, 1) := by decide +kernel
theorem d_X8_kindOf_1 : decode mi_X8_kindOf.2.1 1 = .ok (.iload_n 1, 1) := by decide +kernel
theorem d_X8_kindOf_2 : decode mi_X8_kindOf.2.1 2 = .ok (.invokevirtual 201, 3) := by decide +kernel
theorem d_X8_kindOf_5 : decode mi_X8_kindOf.2.1 5 = .ok (.aload_n 0, 1) := by decide +kernel
theorem d_X8_kindOf_6 : decode mi_X8_kindOf.2.1 6 = .ok (.invokevirtual 211, 3) := by decide +kernel
theorem d_X8_kindOf_9 : decode mi_X8_kindOf.2.1 9 = .ok (.ireturn, 1) := by decide +kernel
theorem cw_X8_211 : CV RX8 211 mi_X8_kindNow 0 := by unfold CV; decide +kernel
def f_X8_kindOf (v1 : Int32) (σ : SS) : Option (Int32 × SS) := cal (f_X8_takes v1 σ) (fun _ s1 => cal (f_X8_kindNow  s1) (fun x3 s2 => some (x3, s2)))
set_option maxRecDepth 20000 in
theorem t_X8_kindOf {d : Nat} {b : Nat × Nat} {v1 : Int32} {σ : SS} {r : Int32} {σ' : SS} (h : f_X8_kindOf v1 σ = some (r, σ')) : MM (d + 5) b mi_X8_kindOf [vR 25 0, vI v1] σ (some (vI r), σ') := by
  refine MM.of (lv := [some (vR 25 0), some (vI v1)]) (by decide +kernel) rfl rfl (fun X Y => ?_)
  rw [f_X8_kindOf] at h
  refine r_aload_n (pc' := 1) d_X8_kindOf_0 rfl rfl rfl ?_
  refine r_iload_n (pc' := 2) d_X8_kindOf_1 rfl rfl rfl ?_
  refine v1_v (mc := mi_X8_takes) (bc := (0, 0)) (b' := _) (pc' := 5) cw_X8_201 d_X8_kindOf_2 rfl rfl rfl (Nat.zero_add _).symm (Nat.zero_add _).symm rfl h (fun _ _ e => t_X8_takes e) (fun _ s1 h => ?_)
  refine r_aload_n (pc' := 6) d_X8_kindOf_5 rfl rfl rfl ?_
  refine v0_i (mc := mi_X8_kindNow) (bc := (0, 0)) (b' := _) (pc' := 9) cw_X8_211 d_X8_kindOf_6 rfl rfl rfl (Nat.zero_add _).symm (Nat.zero_add _).symm rfl h (fun _ _ e => t_X8_kindNow e) (fun x3 s2 h => ?_)
  exact r_iret d_X8_kindOf_9 rfl h
/-! OctagonYardModel.family(I)I -/
def mi_X8_family : MI := (yX8_family, cX8_family, 1, (some .int))
theorem d_X8_family_0 : decode mi_X8_family.2.1 0 = .ok (.iload_n 0, 1) := by decide +kernel
theorem d_X8_family_1 : decode mi_X8_family.2.1 1 = .ok (.iconst 2, 1) := by decide +kernel
theorem d_X8_family_2 : decode mi_X8_family.2.1 2 = .ok (.if_icmp .ge 8, 3) := by decide +kernel
theorem d_X8_family_5 : decode mi_X8_family.2.1 5 = .ok (.bipush 6, 2) := by decide +kernel
theorem d_X8_family_7 : decode mi_X8_family.2.1 7 = .ok (.goto 15, 3) := by decide +kernel
theorem d_X8_family_10 : decode mi_X8_family.2.1 10 = .ok (.iload_n 0, 1) := by decide +kernel
theorem d_X8_family_11 : decode mi_X8_family.2.1 11 = .ok (.iconst 4, 1) := by decide +kernel
theorem d_X8_family_12 : decode mi_X8_family.2.1 12 = .ok (.if_icmp .ge 8, 3) := by decide +kernel
theorem d_X8_family_15 : decode mi_X8_family.2.1 15 = .ok (.bipush 7, 2) := by decide +kernel
theorem d_X8_family_17 : decode mi_X8_family.2.1 17 = .ok (.goto 5, 3) := by decide +kernel
theorem d_X8_family_20 : decode mi_X8_family.2.1 20 = .ok (.bipush 8, 2) := by decide +kernel
theorem d_X8_family_22 : decode mi_X8_family.2.1 22 = .ok (.ireturn, 1) := by decide +kernel
def f_X8_family (v0 : Int32) (σ : SS) : Option (Int32 × SS) := if (2 : Int32) ≤ v0 then (if (4 : Int32) ≤ v0 then (some ((8 : Int32), σ)) else (some ((7 : Int32), σ))) else (some ((6 : Int32), σ))
set_option maxRecDepth 20000 in
theorem t_X8_family {d : Nat} {b : Nat × Nat} {v0 : Int32} {σ : SS} {r : Int32} {σ' : SS} (h : f_X8_family v0 σ = some (r, σ')) : MM d b mi_X8_family [vI v0] σ (some (vI r), σ') := by
  refine MM.of (lv := [some (vI v0)]) (by decide +kernel) rfl rfl (fun X Y => ?_)
  rw [f_X8_family] at h
  refine r_iload_n (pc' := 1) d_X8_family_0 rfl rfl rfl ?_
  refine r_iconst (pc' := 2) d_X8_family_1 ci_2 rfl ?_
  refine r_icmp_ge (pcT := 10) (pc' := 5) d_X8_family_2 rfl rfl h (fun _ h => ?_) (fun _ h => ?_)
  · refine r_iload_n (pc' := 11) d_X8_family_10 rfl rfl rfl ?_
    refine r_iconst (pc' := 12) d_X8_family_11 ci_4 rfl ?_
    refine r_icmp_ge (pcT := 20) (pc' := 15) d_X8_family_12 rfl rfl h (fun _ h => ?_) (fun _ h => ?_)
    · refine r_bipush (pc' := 22) d_X8_family_20 cb_8 rfl ?_
      exact r_iret d_X8_family_22 rfl h
    · refine r_bipush (pc' := 17) d_X8_family_15 cb_7 rfl ?_
      refine r_goto (pc' := 22) d_X8_family_17 rfl ?_
      exact r_iret d_X8_family_22 rfl h
  · refine r_bipush (pc' := 7) d_X8_family_5 cb_6 rfl ?_
    refine r_goto (pc' := 22) d_X8_family_7 rfl ?_
    exact r_iret d_X8_family_22 rfl h
/-! OctagonYardModel.about(II)I -/
def mi_X8_about : MI := (yX8_about, cX8_about, 3, (some .int))
theorem d_X8_about_0 : decode mi_X8_about.2.1 0 = .ok (.aload_n 0, 1) := by decide +kernel
theorem d_X8_about_1 : decode mi_X8_about.2.1 1 = .ok (.iload_n 1, 1) := by decide +kernel
theorem d_X8_about_2 : decode mi_X8_about.2.1 2 = .ok (.invokevirtual 192, 3) := by decide +kernel
theorem d_X8_about_5 : decode mi_X8_about.2.1 5 = .ok (.ifCond .eq 15, 3) := by decide +kernel
theorem d_X8_about_8 : decode mi_X8_about.2.1 8 = .ok (.iload_n 2, 1) := by decide +kernel
theorem d_X8_about_9 : decode mi_X8_about.2.1 9 = .ok (.i2l, 1) := by decide +kernel
theorem d_X8_about_10 : decode mi_X8_about.2.1 10 = .ok (.lconst 0, 1) := by decide +kernel
theorem d_X8_about_11 : decode mi_X8_about.2.1 11 = .ok (.ldc2_w 215, 3) := by decide +kernel
theorem d_X8_about_14 : decode mi_X8_about.2.1 14 = .ok (.invokestatic 139, 3) := by decide +kernel
theorem d_X8_about_17 : decode mi_X8_about.2.1 17 = .ok (.ifCond .ne 5, 3) := by decide +kernel
theorem d_X8_about_20 : decode mi_X8_about.2.1 20 = .ok (.iconst (-1), 1) := by decide +kernel
theorem d_X8_about_21 : decode mi_X8_about.2.1 21 = .ok (.ireturn, 1) := by decide +kernel
theorem d_X8_about_22 : decode mi_X8_about.2.1 22 = .ok (.aload_n 0, 1) := by decide +kernel
theorem d_X8_about_23 : decode mi_X8_about.2.1 23 = .ok (.iload_n 1, 1) := by decide +kernel
theorem d_X8_about_24 : decode mi_X8_about.2.1 24 = .ok (.invokevirtual 201, 3) := by decide +kernel
theorem d_X8_about_27 : decode mi_X8_about.2.1 27 = .ok (.iload_n 2, 1) := by decide +kernel
theorem d_X8_about_28 : decode mi_X8_about.2.1 28 = .ok (.ifCond .ne 10, 3) := by decide +kernel
theorem d_X8_about_31 : decode mi_X8_about.2.1 31 = .ok (.aload_n 0, 1) := by decide +kernel
theorem d_X8_about_32 : decode mi_X8_about.2.1 32 = .ok (.invokevirtual 211, 3) := by decide +kernel
theorem d_X8_about_35 : decode mi_X8_about.2.1 35 = .ok (.goto 50, 3) := by decide +kernel
theorem d_X8_about_38 : decode mi_X8_about.2.1 38 = .ok (.iload_n 2, 1) := by decide +kernel
theorem d_X8_about_39 : decode mi_X8_about.2.1 39 = .ok (.iconst 1, 1) := by decide +kernel
theorem d_X8_about_40 : decode mi_X8_about.2.1 40 = .ok (.if_icmp .ne 10, 3) := by decide +kernel
theorem d_X8_about_43 : decode mi_X8_about.2.1 43 = .ok (.aload_n 0, 1) := by decide +kernel
theorem d_X8_about_44 : decode mi_X8_about.2.1 44 = .ok (.getfield 157, 3) := by decide +kernel
theorem d_X8_about_47 : decode mi_X8_about.2.1 47 = .ok (.goto 38, 3) := by decide +kernel
theorem d_X8_about_50 : decode mi_X8_about.2.1 50 = .ok (.iload_n 2, 1) := by decide +kernel
theorem d_X8_about_51 : decode mi_X8_about.2.1 51 = .ok (.iconst 2, 1) := by decide +kernel
theorem d_X8_about_52 : decode mi_X8_about.2.1 52 = .ok (.if_icmp .ne 12, 3) := by decide +kernel
theorem d_X8_about_55 : decode mi_X8_about.2.1 55 = .ok (.aload_n 0, 1) := by decide +kernel
theorem d_X8_about_56 : decode mi_X8_about.2.1 56 = .ok (.getfield 35, 3) := by decide +kernel
theorem d_X8_about_59 : decode mi_X8_about.2.1 59 = .ok (.iload_n 1, 1) := by decide +kernel
theorem d_X8_about_60 : decode mi_X8_about.2.1 60 = .ok (.iaload, 1) := by decide +kernel
theorem d_X8_about_61 : decode mi_X8_about.2.1 61 = .ok (.goto 24, 3) := by decide +kernel
theorem d_X8_about_64 : decode mi_X8_about.2.1 64 = .ok (.iload_n 2, 1) := by decide +kernel
theorem d_X8_about_65 : decode mi_X8_about.2.1 65 = .ok (.iconst 3, 1) := by decide +kernel
theorem d_X8_about_66 : decode mi_X8_about.2.1 66 = .ok (.if_icmp .ne 12, 3) := by decide +kernel
theorem d_X8_about_69 : decode mi_X8_about.2.1 69 = .ok (.aload_n 0, 1) := by decide +kernel
theorem d_X8_about_70 : decode mi_X8_about.2.1 70 = .ok (.getfield 38, 3) := by decide +kernel
theorem d_X8_about_73 : decode mi_X8_about.2.1 73 = .ok (.iload_n 1, 1) := by decide +kernel
theorem d_X8_about_74 : decode mi_X8_about.2.1 74 = .ok (.iaload, 1) := by decide +kernel
theorem d_X8_about_75 : decode mi_X8_about.2.1 75 = .ok (.goto 10, 3) := by decide +kernel
theorem d_X8_about_78 : decode mi_X8_about.2.1 78 = .ok (.aload_n 0, 1) := by decide +kernel
theorem d_X8_about_79 : decode mi_X8_about.2.1 79 = .ok (.invokevirtual 211, 3) := by decide +kernel
theorem d_X8_about_82 : decode mi_X8_about.2.1 82 = .ok (.invokestatic 217, 3) := by decide +kernel
theorem d_X8_about_85 : decode mi_X8_about.2.1 85 = .ok (.ireturn, 1) := by decide +kernel
theorem k_X8_215 : Cond.constantLong RX8 215 (4) ∈ mtbl := by decide +kernel
theorem cw_X8_217 : CT RX8 217 mi_X8_family 1 := by unfold CT; decide +kernel
def f_X8_about (v1 : Int32) (v2 : Int32) (σ : SS) : Option (Int32 × SS) := cal (f_X8_isPiece v1 σ) (fun x2 s1 => if x2 = 0 then (some ((-1 : Int32), s1)) else (cal (f_X8_in (Int32.toInt64 v2) (0 : Int64) (4 : Int64) s1) (fun x4 s3 => if x4 = 0 then (some ((-1 : Int32), s3)) else (cal (f_X8_takes v1 s3) (fun _ s5 => if v2 = 0 then (cal (f_X8_kindNow  s5) (fun x11 s10 => some (x11, s10))) else (if v2 = (1 : Int32) then (some ((s5.1 25 0 17), s5)) else (if v2 = (2 : Int32) then (chk (inr v1 60) (some ((s5.1 49 0 (ix v1)), s5))) else (if v2 = (3 : Int32) then (chk (inr v1 60) (some ((s5.1 50 0 (ix v1)), s5))) else (cal (f_X8_kindNow  s5) (fun x7 s6 => cal (f_X8_family x7 s6) (fun x9 s8 => some (x9, s8))))))))))))
set_option maxRecDepth 20000 in
theorem t_X8_about {d : Nat} {b : Nat × Nat} {v1 : Int32} {v2 : Int32} {σ : SS} {r : Int32} {σ' : SS} (h : f_X8_about v1 v2 σ = some (r, σ')) : MM (d + 5) b mi_X8_about [vR 25 0, vI v1, vI v2] σ (some (vI r), σ') := by
  refine MM.of (lv := [some (vR 25 0), some (vI v1), some (vI v2)]) (by decide +kernel) rfl rfl (fun X Y => ?_)
  rw [f_X8_about] at h
  refine r_aload_n (pc' := 1) d_X8_about_0 rfl rfl rfl ?_
  refine r_iload_n (pc' := 2) d_X8_about_1 rfl rfl rfl ?_
  refine v1_i (mc := mi_X8_isPiece) (bc := (0, 0)) (b' := _) (pc' := 5) cw_X8_192 d_X8_about_2 rfl rfl rfl (Nat.zero_add _).symm (Nat.zero_add _).symm rfl h (fun _ _ e => t_X8_isPiece e) (fun x2 s1 h => ?_)
  refine r_if_eq (pcT := 20) (pc' := 8) d_X8_about_5 rfl rfl h (fun _ h => ?_) (fun _ h => ?_)
  · refine r_iconst (pc' := 21) d_X8_about_20 ci_m1 rfl ?_
    exact r_iret d_X8_about_21 rfl h
  · refine r_iload_n (pc' := 9) d_X8_about_8 rfl rfl rfl ?_
    refine r_i2l (pc' := 10) d_X8_about_9 rfl ?_
    refine r_lconst (pc' := 11) (x := 0) d_X8_about_10 rfl rfl ?_
    refine r_ldc2 (pc' := 14) k_X8_215 d_X8_about_11 rfl ?_
    refine s3_i (mc := mi_X8_in) (bc := (0, 0)) (b' := _) (pc' := 17) cw_X8_139 d_X8_about_14 rfl (Nat.zero_add _).symm (Nat.zero_add _).symm rfl h (fun _ _ e => t_X8_in e) (fun x4 s3 h => ?_)
    refine r_if_ne (pcT := 22) (pc' := 20) d_X8_about_17 rfl rfl h (fun _ h => ?_) (fun _ h => ?_)
    · refine r_iconst (pc' := 21) d_X8_about_20 ci_m1 rfl ?_
      exact r_iret d_X8_about_21 rfl h
    · refine r_aload_n (pc' := 23) d_X8_about_22 rfl rfl rfl ?_
      refine r_iload_n (pc' := 24) d_X8_about_23 rfl rfl rfl ?_
      refine v1_v (mc := mi_X8_takes) (bc := (0, 0)) (b' := _) (pc' := 27) cw_X8_201 d_X8_about_24 rfl rfl rfl (Nat.zero_add _).symm (Nat.zero_add _).symm rfl h (fun _ _ e => t_X8_takes e) (fun _ s5 h => ?_)
      refine r_iload_n (pc' := 28) d_X8_about_27 rfl rfl rfl ?_
      refine r_if_ne (pcT := 38) (pc' := 31) d_X8_about_28 rfl rfl h (fun _ h => ?_) (fun _ h => ?_)
      · refine r_aload_n (pc' := 32) d_X8_about_31 rfl rfl rfl ?_
        refine v0_i (mc := mi_X8_kindNow) (bc := (0, 0)) (b' := _) (pc' := 35) cw_X8_211 d_X8_about_32 rfl rfl rfl (Nat.zero_add _).symm (Nat.zero_add _).symm rfl h (fun _ _ e => t_X8_kindNow e) (fun x11 s10 h => ?_)
        refine r_goto (pc' := 85) d_X8_about_35 rfl ?_
        exact r_iret d_X8_about_85 rfl h
      · refine r_iload_n (pc' := 39) d_X8_about_38 rfl rfl rfl ?_
        refine r_iconst (pc' := 40) d_X8_about_39 ci_1 rfl ?_
        refine r_icmp_ne (pcT := 50) (pc' := 43) d_X8_about_40 rfl rfl h (fun _ h => ?_) (fun _ h => ?_)
        · refine r_aload_n (pc' := 44) d_X8_about_43 rfl rfl rfl ?_
          refine r_get (v := vI _) (pc' := 47) fl_X8_157 d_X8_about_44 rfl rfl (fun _ => trivial) rfl ?_
          refine r_goto (pc' := 85) d_X8_about_47 rfl ?_
          exact r_iret d_X8_about_85 rfl h
        · refine r_iload_n (pc' := 51) d_X8_about_50 rfl rfl rfl ?_
          refine r_iconst (pc' := 52) d_X8_about_51 ci_2 rfl ?_
          refine r_icmp_ne (pcT := 64) (pc' := 55) d_X8_about_52 rfl rfl h (fun _ h => ?_) (fun _ h => ?_)
          · refine r_aload_n (pc' := 56) d_X8_about_55 rfl rfl rfl ?_
            refine r_get (v := vR 49 _) (pc' := 59) fl_X8_35 d_X8_about_56 rfl rfl (fun g => Or.inl ⟨rfl, g.2⟩) rfl ?_
            refine r_iload_n (pc' := 60) d_X8_about_59 rfl rfl rfl ?_
            refine r_iaload (pc' := 61) d_X8_about_60 rfl (fun _ => rfl) rfl h (fun h => ?_)
            refine r_goto (pc' := 85) d_X8_about_61 rfl ?_
            exact r_iret d_X8_about_85 rfl h
          · refine r_iload_n (pc' := 65) d_X8_about_64 rfl rfl rfl ?_
            refine r_iconst (pc' := 66) d_X8_about_65 ci_3 rfl ?_
            refine r_icmp_ne (pcT := 78) (pc' := 69) d_X8_about_66 rfl rfl h (fun _ h => ?_) (fun _ h => ?_)
            · refine r_aload_n (pc' := 70) d_X8_about_69 rfl rfl rfl ?_
              refine r_get (v := vR 50 _) (pc' := 73) fl_X8_38 d_X8_about_70 rfl rfl (fun g => Or.inl ⟨rfl, g.2⟩) rfl ?_
              refine r_iload_n (pc' := 74) d_X8_about_73 rfl rfl rfl ?_
              refine r_iaload (pc' := 75) d_X8_about_74 rfl (fun _ => rfl) rfl h (fun h => ?_)
              refine r_goto (pc' := 85) d_X8_about_75 rfl ?_
              exact r_iret d_X8_about_85 rfl h
            · refine r_aload_n (pc' := 79) d_X8_about_78 rfl rfl rfl ?_
              refine v0_i (mc := mi_X8_kindNow) (bc := (0, 0)) (b' := _) (pc' := 82) cw_X8_211 d_X8_about_79 rfl rfl rfl (Nat.zero_add _).symm (Nat.zero_add _).symm rfl h (fun _ _ e => t_X8_kindNow e) (fun x7 s6 h => ?_)
              refine s1_i (mc := mi_X8_family) (bc := (0, 0)) (b' := _) (pc' := 85) cw_X8_217 d_X8_about_82 rfl (Nat.zero_add _).symm (Nat.zero_add _).symm rfl h (fun _ _ e => t_X8_family e) (fun x9 s8 h => ?_)
              exact r_iret d_X8_about_85 rfl h
/-! OctagonYardModel.corner(III)I -/
def mi_X8_corner : MI := (yX8_corner, cX8_corner, 4, (some .int))
theorem d_X8_corner_0 : decode mi_X8_corner.2.1 0 = .ok (.aload_n 0, 1) := by decide +kernel
theorem d_X8_corner_1 : decode mi_X8_corner.2.1 1 = .ok (.iload_n 1, 1) := by decide +kernel
theorem d_X8_corner_2 : decode mi_X8_corner.2.1 2 = .ok (.invokevirtual 192, 3) := by decide +kernel
theorem d_X8_corner_5 : decode mi_X8_corner.2.1 5 = .ok (.ifCond .eq 13, 3) := by decide +kernel
theorem d_X8_corner_8 : decode mi_X8_corner.2.1 8 = .ok (.iload_n 3, 1) := by decide +kernel
theorem d_X8_corner_9 : decode mi_X8_corner.2.1 9 = .ok (.i2l, 1) := by decide +kernel
theorem d_X8_corner_10 : decode mi_X8_corner.2.1 10 = .ok (.lconst 0, 1) := by decide +kernel
theorem d_X8_corner_11 : decode mi_X8_corner.2.1 11 = .ok (.lconst 1, 1) := by decide +kernel
theorem d_X8_corner_12 : decode mi_X8_corner.2.1 12 = .ok (.invokestatic 139, 3) := by decide +kernel
theorem d_X8_corner_15 : decode mi_X8_corner.2.1 15 = .ok (.ifCond .ne 6, 3) := by decide +kernel
theorem d_X8_corner_18 : decode mi_X8_corner.2.1 18 = .ok (.ldc 210, 2) := by decide +kernel
theorem d_X8_corner_20 : decode mi_X8_corner.2.1 20 = .ok (.ireturn, 1) := by decide +kernel
theorem d_X8_corner_21 : decode mi_X8_corner.2.1 21 = .ok (.aload_n 0, 1) := by decide +kernel
theorem d_X8_corner_22 : decode mi_X8_corner.2.1 22 = .ok (.iload_n 1, 1) := by decide +kernel
theorem d_X8_corner_23 : decode mi_X8_corner.2.1 23 = .ok (.invokevirtual 201, 3) := by decide +kernel
theorem d_X8_corner_26 : decode mi_X8_corner.2.1 26 = .ok (.iload_n 2, 1) := by decide +kernel
theorem d_X8_corner_27 : decode mi_X8_corner.2.1 27 = .ok (.i2l, 1) := by decide +kernel
theorem d_X8_corner_28 : decode mi_X8_corner.2.1 28 = .ok (.lconst 0, 1) := by decide +kernel
theorem d_X8_corner_29 : decode mi_X8_corner.2.1 29 = .ok (.aload_n 0, 1) := by decide +kernel
theorem d_X8_corner_30 : decode mi_X8_corner.2.1 30 = .ok (.getfield 157, 3) := by decide +kernel
theorem d_X8_corner_33 : decode mi_X8_corner.2.1 33 = .ok (.iconst 1, 1) := by decide +kernel
theorem d_X8_corner_34 : decode mi_X8_corner.2.1 34 = .ok (.isub, 1) := by decide +kernel
theorem d_X8_corner_35 : decode mi_X8_corner.2.1 35 = .ok (.i2l, 1) := by decide +kernel
theorem d_X8_corner_36 : decode mi_X8_corner.2.1 36 = .ok (.invokestatic 139, 3) := by decide +kernel
theorem d_X8_corner_39 : decode mi_X8_corner.2.1 39 = .ok (.ifCond .ne 8, 3) := by decide +kernel
theorem d_X8_corner_42 : decode mi_X8_corner.2.1 42 = .ok (.ldc 210, 2) := by decide +kernel
theorem d_X8_corner_44 : decode mi_X8_corner.2.1 44 = .ok (.goto 22, 3) := by decide +kernel
theorem d_X8_corner_47 : decode mi_X8_corner.2.1 47 = .ok (.iload_n 3, 1) := by decide +kernel
theorem d_X8_corner_48 : decode mi_X8_corner.2.1 48 = .ok (.ifCond .ne 12, 3) := by decide +kernel
theorem d_X8_corner_51 : decode mi_X8_corner.2.1 51 = .ok (.aload_n 0, 1) := by decide +kernel
theorem d_X8_corner_52 : decode mi_X8_corner.2.1 52 = .ok (.getfield 59, 3) := by decide +kernel
theorem d_X8_corner_55 : decode mi_X8_corner.2.1 55 = .ok (.iload_n 2, 1) := by decide +kernel
theorem d_X8_corner_56 : decode mi_X8_corner.2.1 56 = .ok (.iaload, 1) := by decide +kernel
theorem d_X8_corner_57 : decode mi_X8_corner.2.1 57 = .ok (.goto 9, 3) := by decide +kernel
theorem d_X8_corner_60 : decode mi_X8_corner.2.1 60 = .ok (.aload_n 0, 1) := by decide +kernel
theorem d_X8_corner_61 : decode mi_X8_corner.2.1 61 = .ok (.getfield 62, 3) := by decide +kernel
theorem d_X8_corner_64 : decode mi_X8_corner.2.1 64 = .ok (.iload_n 2, 1) := by decide +kernel
theorem d_X8_corner_65 : decode mi_X8_corner.2.1 65 = .ok (.iaload, 1) := by decide +kernel
theorem d_X8_corner_66 : decode mi_X8_corner.2.1 66 = .ok (.ireturn, 1) := by decide +kernel
def f_X8_corner (v1 : Int32) (v2 : Int32) (v3 : Int32) (σ : SS) : Option (Int32 × SS) := cal (f_X8_isPiece v1 σ) (fun x2 s1 => if x2 = 0 then (some ((100000 : Int32), s1)) else (cal (f_X8_in (Int32.toInt64 v3) (0 : Int64) (1 : Int64) s1) (fun x4 s3 => if x4 = 0 then (some ((100000 : Int32), s3)) else (cal (f_X8_takes v1 s3) (fun _ s5 => cal (f_X8_in (Int32.toInt64 v2) (0 : Int64) (Int32.toInt64 ((s5.1 25 0 17) - (1 : Int32))) s5) (fun x7 s6 => if x7 = 0 then (some ((100000 : Int32), s6)) else (if v3 = 0 then (chk (inr v2 8) (some ((s6.1 59 0 (ix v2)), s6))) else (chk (inr v2 8) (some ((s6.1 60 0 (ix v2)), s6))))))))))
set_option maxRecDepth 20000 in
theorem t_X8_corner {d : Nat} {b : Nat × Nat} {v1 : Int32} {v2 : Int32} {v3 : Int32} {σ : SS} {r : Int32} {σ' : SS} (h : f_X8_corner v1 v2 v3 σ = some (r, σ')) : MM (d + 5) b mi_X8_corner [vR 25 0, vI v1, vI v2, vI v3] σ (some (vI r), σ') := by
  refine MM.of (lv := [some (vR 25 0), some (vI v1), some (vI v2), some (vI v3)]) (by decide +kernel) rfl rfl (fun X Y => ?_)
  rw [f_X8_corner] at h
  refine r_aload_n (pc' := 1) d_X8_corner_0 rfl rfl rfl ?_
  refine r_iload_n (pc' := 2) d_X8_corner_1 rfl rfl rfl ?_
  refine v1_i (mc := mi_X8_isPiece) (bc := (0, 0)) (b' := _) (pc' := 5) cw_X8_192 d_X8_corner_2 rfl rfl rfl (Nat.zero_add _).symm (Nat.zero_add _).symm rfl h (fun _ _ e => t_X8_isPiece e) (fun x2 s1 h => ?_)
  refine r_if_eq (pcT := 18) (pc' := 8) d_X8_corner_5 rfl rfl h (fun _ h => ?_) (fun _ h => ?_)
  · refine r_ldc (pc' := 20) k_X8_210 d_X8_corner_18 rfl ?_
    exact r_iret d_X8_corner_20 rfl h
  · refine r_iload_n (pc' := 9) d_X8_corner_8 rfl rfl rfl ?_
    refine r_i2l (pc' := 10) d_X8_corner_9 rfl ?_
    refine r_lconst (pc' := 11) (x := 0) d_X8_corner_10 rfl rfl ?_
    refine r_lconst (pc' := 12) (x := 1) d_X8_corner_11 rfl rfl ?_
    refine s3_i (mc := mi_X8_in) (bc := (0, 0)) (b' := _) (pc' := 15) cw_X8_139 d_X8_corner_12 rfl (Nat.zero_add _).symm (Nat.zero_add _).symm rfl h (fun _ _ e => t_X8_in e) (fun x4 s3 h => ?_)
    refine r_if_ne (pcT := 21) (pc' := 18) d_X8_corner_15 rfl rfl h (fun _ h => ?_) (fun _ h => ?_)
    · refine r_ldc (pc' := 20) k_X8_210 d_X8_corner_18 rfl ?_
      exact r_iret d_X8_corner_20 rfl h
    · refine r_aload_n (pc' := 22) d_X8_corner_21 rfl rfl rfl ?_
      refine r_iload_n (pc' := 23) d_X8_corner_22 rfl rfl rfl ?_
      refine v1_v (mc := mi_X8_takes) (bc := (0, 0)) (b' := _) (pc' := 26) cw_X8_201 d_X8_corner_23 rfl rfl rfl (Nat.zero_add _).symm (Nat.zero_add _).symm rfl h (fun _ _ e => t_X8_takes e) (fun _ s5 h => ?_)
      refine r_iload_n (pc' := 27) d_X8_corner_26 rfl rfl rfl ?_
      refine r_i2l (pc' := 28) d_X8_corner_27 rfl ?_
      refine r_lconst (pc' := 29) (x := 0) d_X8_corner_28 rfl rfl ?_
      refine r_aload_n (pc' := 30) d_X8_corner_29 rfl rfl rfl ?_
      refine r_get (v := vI _) (pc' := 33) fl_X8_157 d_X8_corner_30 rfl rfl (fun _ => trivial) rfl ?_
      refine r_iconst (pc' := 34) d_X8_corner_33 ci_1 rfl ?_
      refine r_isub (pc' := 35) d_X8_corner_34 rfl ?_
      refine r_i2l (pc' := 36) d_X8_corner_35 rfl ?_
      refine s3_i (mc := mi_X8_in) (bc := (0, 0)) (b' := _) (pc' := 39) cw_X8_139 d_X8_corner_36 rfl (Nat.zero_add _).symm (Nat.zero_add _).symm rfl h (fun _ _ e => t_X8_in e) (fun x7 s6 h => ?_)
      refine r_if_ne (pcT := 47) (pc' := 42) d_X8_corner_39 rfl rfl h (fun _ h => ?_) (fun _ h => ?_)
      · refine r_ldc (pc' := 44) k_X8_210 d_X8_corner_42 rfl ?_
        refine r_goto (pc' := 66) d_X8_corner_44 rfl ?_
        exact r_iret d_X8_corner_66 rfl h
      · refine r_iload_n (pc' := 48) d_X8_corner_47 rfl rfl rfl ?_
        refine r_if_ne (pcT := 60) (pc' := 51) d_X8_corner_48 rfl rfl h (fun _ h => ?_) (fun _ h => ?_)
        · refine r_aload_n (pc' := 52) d_X8_corner_51 rfl rfl rfl ?_
          refine r_get (v := vR 59 _) (pc' := 55) fl_X8_59 d_X8_corner_52 rfl rfl (fun g => Or.inl ⟨rfl, g.2⟩) rfl ?_
          refine r_iload_n (pc' := 56) d_X8_corner_55 rfl rfl rfl ?_
          refine r_iaload (pc' := 57) d_X8_corner_56 rfl (fun _ => rfl) rfl h (fun h => ?_)
          refine r_goto (pc' := 66) d_X8_corner_57 rfl ?_
          exact r_iret d_X8_corner_66 rfl h
        · refine r_aload_n (pc' := 61) d_X8_corner_60 rfl rfl rfl ?_
          refine r_get (v := vR 60 _) (pc' := 64) fl_X8_62 d_X8_corner_61 rfl rfl (fun g => Or.inl ⟨rfl, g.2⟩) rfl ?_
          refine r_iload_n (pc' := 65) d_X8_corner_64 rfl rfl rfl ?_
          refine r_iaload (pc' := 66) d_X8_corner_65 rfl (fun _ => rfl) rfl h (fun h => ?_)
          exact r_iret d_X8_corner_66 rfl h
/-! OctagonYardModel.side(II)I -/
def mi_X8_side : MI := (yX8_side, cX8_side, 3, (some .int))
theorem d_X8_side_0 : decode mi_X8_side.2.1 0 = .ok (.aload_n 0, 1) := by decide +kernel
theorem d_X8_side_1 : decode mi_X8_side.2.1 1 = .ok (.iload_n 1, 1) := by decide +kernel
theorem d_X8_side_2 : decode mi_X8_side.2.1 2 = .ok (.invokevirtual 192, 3) := by decide +kernel
theorem d_X8_side_5 : decode mi_X8_side.2.1 5 = .ok (.ifCond .ne 5, 3) := by decide +kernel
theorem d_X8_side_8 : decode mi_X8_side.2.1 8 = .ok (.iconst (-1), 1) := by decide +kernel
theorem d_X8_side_9 : decode mi_X8_side.2.1 9 = .ok (.ireturn, 1) := by decide +kernel
theorem d_X8_side_10 : decode mi_X8_side.2.1 10 = .ok (.aload_n 0, 1) := by decide +kernel
theorem d_X8_side_11 : decode mi_X8_side.2.1 11 = .ok (.iload_n 1, 1) := by decide +kernel
theorem d_X8_side_12 : decode mi_X8_side.2.1 12 = .ok (.invokevirtual 201, 3) := by decide +kernel
theorem d_X8_side_15 : decode mi_X8_side.2.1 15 = .ok (.iload_n 2, 1) := by decide +kernel
theorem d_X8_side_16 : decode mi_X8_side.2.1 16 = .ok (.i2l, 1) := by decide +kernel
theorem d_X8_side_17 : decode mi_X8_side.2.1 17 = .ok (.lconst 0, 1) := by decide +kernel
theorem d_X8_side_18 : decode mi_X8_side.2.1 18 = .ok (.aload_n 0, 1) := by decide +kernel
theorem d_X8_side_19 : decode mi_X8_side.2.1 19 = .ok (.getfield 157, 3) := by decide +kernel
theorem d_X8_side_22 : decode mi_X8_side.2.1 22 = .ok (.iconst 1, 1) := by decide +kernel
theorem d_X8_side_23 : decode mi_X8_side.2.1 23 = .ok (.isub, 1) := by decide +kernel
theorem d_X8_side_24 : decode mi_X8_side.2.1 24 = .ok (.i2l, 1) := by decide +kernel
theorem d_X8_side_25 : decode mi_X8_side.2.1 25 = .ok (.invokestatic 139, 3) := by decide +kernel
theorem d_X8_side_28 : decode mi_X8_side.2.1 28 = .ok (.ifCond .eq 12, 3) := by decide +kernel
theorem d_X8_side_31 : decode mi_X8_side.2.1 31 = .ok (.aload_n 0, 1) := by decide +kernel
theorem d_X8_side_32 : decode mi_X8_side.2.1 32 = .ok (.getfield 56, 3) := by decide +kernel
theorem d_X8_side_35 : decode mi_X8_side.2.1 35 = .ok (.iload_n 2, 1) := by decide +kernel
theorem d_X8_side_36 : decode mi_X8_side.2.1 36 = .ok (.iaload, 1) := by decide +kernel
theorem d_X8_side_37 : decode mi_X8_side.2.1 37 = .ok (.goto 4, 3) := by decide +kernel
theorem d_X8_side_40 : decode mi_X8_side.2.1 40 = .ok (.iconst (-1), 1) := by decide +kernel
theorem d_X8_side_41 : decode mi_X8_side.2.1 41 = .ok (.ireturn, 1) := by decide +kernel
def f_X8_side (v1 : Int32) (v2 : Int32) (σ : SS) : Option (Int32 × SS) := cal (f_X8_isPiece v1 σ) (fun x2 s1 => if x2 = 0 then (some ((-1 : Int32), s1)) else (cal (f_X8_takes v1 s1) (fun _ s3 => cal (f_X8_in (Int32.toInt64 v2) (0 : Int64) (Int32.toInt64 ((s3.1 25 0 17) - (1 : Int32))) s3) (fun x5 s4 => if x5 = 0 then (some ((-1 : Int32), s4)) else (chk (inr v2 8) (some ((s4.1 58 0 (ix v2)), s4)))))))
set_option maxRecDepth 20000 in
theorem t_X8_side {d : Nat} {b : Nat × Nat} {v1 : Int32} {v2 : Int32} {σ : SS} {r : Int32} {σ' : SS} (h : f_X8_side v1 v2 σ = some (r, σ')) : MM (d + 5) b mi_X8_side [vR 25 0, vI v1, vI v2] σ (some (vI r), σ') := by
  refine MM.of (lv := [some (vR 25 0), some (vI v1), some (vI v2)]) (by decide +kernel) rfl rfl (fun X Y => ?_)
  rw [f_X8_side] at h
  refine r_aload_n (pc' := 1) d_X8_side_0 rfl rfl rfl ?_
  refine r_iload_n (pc' := 2) d_X8_side_1 rfl rfl rfl ?_
  refine v1_i (mc := mi_X8_isPiece) (bc := (0, 0)) (b' := _) (pc' := 5) cw_X8_192 d_X8_side_2 rfl rfl rfl (Nat.zero_add _).symm (Nat.zero_add _).symm rfl h (fun _ _ e => t_X8_isPiece e) (fun x2 s1 h => ?_)
  refine r_if_ne (pcT := 10) (pc' := 8) d_X8_side_5 rfl rfl h (fun _ h => ?_) (fun _ h => ?_)
  · refine r_iconst (pc' := 9) d_X8_side_8 ci_m1 rfl ?_
    exact r_iret d_X8_side_9 rfl h
  · refine r_aload_n (pc' := 11) d_X8_side_10 rfl rfl rfl ?_
    refine r_iload_n (pc' := 12) d_X8_side_11 rfl rfl rfl ?_
    refine v1_v (mc := mi_X8_takes) (bc := (0, 0)) (b' := _) (pc' := 15) cw_X8_201 d_X8_side_12 rfl rfl rfl (Nat.zero_add _).symm (Nat.zero_add _).symm rfl h (fun _ _ e => t_X8_takes e) (fun _ s3 h => ?_)
    refine r_iload_n (pc' := 16) d_X8_side_15 rfl rfl rfl ?_
    refine r_i2l (pc' := 17) d_X8_side_16 rfl ?_
    refine r_lconst (pc' := 18) (x := 0) d_X8_side_17 rfl rfl ?_
    refine r_aload_n (pc' := 19) d_X8_side_18 rfl rfl rfl ?_
    refine r_get (v := vI _) (pc' := 22) fl_X8_157 d_X8_side_19 rfl rfl (fun _ => trivial) rfl ?_
    refine r_iconst (pc' := 23) d_X8_side_22 ci_1 rfl ?_
    refine r_isub (pc' := 24) d_X8_side_23 rfl ?_
    refine r_i2l (pc' := 25) d_X8_side_24 rfl ?_
    refine s3_i (mc := mi_X8_in) (bc := (0, 0)) (b' := _) (pc' := 28) cw_X8_139 d_X8_side_25 rfl (Nat.zero_add _).symm (Nat.zero_add _).symm rfl h (fun _ _ e => t_X8_in e) (fun x5 s4 h => ?_)
    refine r_if_eq (pcT := 40) (pc' := 31) d_X8_side_28 rfl rfl h (fun _ h => ?_) (fun _ h => ?_)
    · refine r_iconst (pc' := 41) d_X8_side_40 ci_m1 rfl ?_
      exact r_iret d_X8_side_41 rfl h
    · refine r_aload_n (pc' := 32) d_X8_side_31 rfl rfl rfl ?_
      refine r_get (v := vR 58 _) (pc' := 35) fl_X8_56 d_X8_side_32 rfl rfl (fun g => Or.inl ⟨rfl, g.2⟩) rfl ?_
      refine r_iload_n (pc' := 36) d_X8_side_35 rfl rfl rfl ?_
      refine r_iaload (pc' := 37) d_X8_side_36 rfl (fun _ => rfl) rfl h (fun h => ?_)
      refine r_goto (pc' := 41) d_X8_side_37 rfl ?_
      exact r_iret d_X8_side_41 rfl h
/-! OctagonYardModel.area(I)I -/
def mi_X8_area : MI := (yX8_area, cX8_area, 2, (some .int))
theorem d_X8_area_0 : decode mi_X8_area.2.1 0 = .ok (.aload_n 0, 1) := by decide +kernel
theorem d_X8_area_1 : decode mi_X8_area.2.1 1 = .ok (.iload_n 1, 1) := by decide +kernel
theorem d_X8_area_2 : decode mi_X8_area.2.1 2 = .ok (.invokevirtual 192, 3) := by decide +kernel
theorem d_X8_area_5 : decode mi_X8_area.2.1 5 = .ok (.ifCond .ne 5, 3) := by decide +kernel
theorem d_X8_area_8 : decode mi_X8_area.2.1 8 = .ok (.iconst (-1), 1) := by decide +kernel
theorem d_X8_area_9 : decode mi_X8_area.2.1 9 = .ok (.ireturn, 1) := by decide +kernel
theorem d_X8_area_10 : decode mi_X8_area.2.1 10 = .ok (.aload_n 0, 1) := by decide +kernel
theorem d_X8_area_11 : decode mi_X8_area.2.1 11 = .ok (.iload_n 1, 1) := by decide +kernel
theorem d_X8_area_12 : decode mi_X8_area.2.1 12 = .ok (.invokevirtual 201, 3) := by decide +kernel
theorem d_X8_area_15 : decode mi_X8_area.2.1 15 = .ok (.aload_n 0, 1) := by decide +kernel
theorem d_X8_area_16 : decode mi_X8_area.2.1 16 = .ok (.invokevirtual 220, 3) := by decide +kernel
theorem d_X8_area_19 : decode mi_X8_area.2.1 19 = .ok (.ireturn, 1) := by decide +kernel
theorem cw_X8_220 : CV RX8 220 mi_X8_areaNow 0 := by unfold CV; decide +kernel
def f_X8_area (v1 : Int32) (σ : SS) : Option (Int32 × SS) := cal (f_X8_isPiece v1 σ) (fun x2 s1 => if x2 = 0 then (some ((-1 : Int32), s1)) else (cal (f_X8_takes v1 s1) (fun _ s3 => cal (f_X8_areaNow  s3) (fun x5 s4 => some (x5, s4)))))
set_option maxRecDepth 20000 in
theorem t_X8_area {d : Nat} {b : Nat × Nat} {v1 : Int32} {σ : SS} {r : Int32} {σ' : SS} (h : f_X8_area v1 σ = some (r, σ')) : MM (d + 5) b mi_X8_area [vR 25 0, vI v1] σ (some (vI r), σ') := by
  refine MM.of (lv := [some (vR 25 0), some (vI v1)]) (by decide +kernel) rfl rfl (fun X Y => ?_)
  rw [f_X8_area] at h
  refine r_aload_n (pc' := 1) d_X8_area_0 rfl rfl rfl ?_
  refine r_iload_n (pc' := 2) d_X8_area_1 rfl rfl rfl ?_
  refine v1_i (mc := mi_X8_isPiece) (bc := (0, 0)) (b' := _) (pc' := 5) cw_X8_192 d_X8_area_2 rfl rfl rfl (Nat.zero_add _).symm (Nat.zero_add _).symm rfl h (fun _ _ e => t_X8_isPiece e) (fun x2 s1 h => ?_)
  refine r_if_ne (pcT := 10) (pc' := 8) d_X8_area_5 rfl rfl h (fun _ h => ?_) (fun _ h => ?_)
  · refine r_iconst (pc' := 9) d_X8_area_8 ci_m1 rfl ?_
    exact r_iret d_X8_area_9 rfl h
  · refine r_aload_n (pc' := 11) d_X8_area_10 rfl rfl rfl ?_
    refine r_iload_n (pc' := 12) d_X8_area_11 rfl rfl rfl ?_
    refine v1_v (mc := mi_X8_takes) (bc := (0, 0)) (b' := _) (pc' := 15) cw_X8_201 d_X8_area_12 rfl rfl rfl (Nat.zero_add _).symm (Nat.zero_add _).symm rfl h (fun _ _ e => t_X8_takes e) (fun _ s3 h => ?_)
    refine r_aload_n (pc' := 16) d_X8_area_15 rfl rfl rfl ?_
    refine v0_i (mc := mi_X8_areaNow) (bc := (0, 0)) (b' := _) (pc' := 19) cw_X8_220 d_X8_area_16 rfl rfl rfl (Nat.zero_add _).symm (Nat.zero_add _).symm rfl h (fun _ _ e => t_X8_areaNow e) (fun x5 s4 h => ?_)
    exact r_iret d_X8_area_19 rfl h
/-! OctagonYardModel.volume(I)J -/
def mi_X8_volume : MI := (yX8_volume, cX8_volume, 2, (some .long))
theorem d_X8_volume_0 : decode mi_X8_volume.2.1 0 = .ok (.aload_n 0, 1) := by decide +kernel
theorem d_X8_volume_1 : decode mi_X8_volume.2.1 1 = .ok (.iload_n 1, 1) := by decide +kernel
theorem d_X8_volume_2 : decode mi_X8_volume.2.1 2 = .ok (.invokevirtual 192, 3) := by decide +kernel
theorem d_X8_volume_5 : decode mi_X8_volume.2.1 5 = .ok (.ifCond .eq 20, 3) := by decide +kernel
theorem d_X8_volume_8 : decode mi_X8_volume.2.1 8 = .ok (.aload_n 0, 1) := by decide +kernel
theorem d_X8_volume_9 : decode mi_X8_volume.2.1 9 = .ok (.iload_n 1, 1) := by decide +kernel
theorem d_X8_volume_10 : decode mi_X8_volume.2.1 10 = .ok (.invokevirtual 223, 3) := by decide +kernel
theorem d_X8_volume_13 : decode mi_X8_volume.2.1 13 = .ok (.i2l, 1) := by decide +kernel
theorem d_X8_volume_14 : decode mi_X8_volume.2.1 14 = .ok (.aload_n 0, 1) := by decide +kernel
theorem d_X8_volume_15 : decode mi_X8_volume.2.1 15 = .ok (.getfield 35, 3) := by decide +kernel
theorem d_X8_volume_18 : decode mi_X8_volume.2.1 18 = .ok (.iload_n 1, 1) := by decide +kernel
theorem d_X8_volume_19 : decode mi_X8_volume.2.1 19 = .ok (.iaload, 1) := by decide +kernel
theorem d_X8_volume_20 : decode mi_X8_volume.2.1 20 = .ok (.i2l, 1) := by decide +kernel
theorem d_X8_volume_21 : decode mi_X8_volume.2.1 21 = .ok (.lmul, 1) := by decide +kernel
theorem d_X8_volume_22 : decode mi_X8_volume.2.1 22 = .ok (.goto 6, 3) := by decide +kernel
theorem d_X8_volume_25 : decode mi_X8_volume.2.1 25 = .ok (.ldc2_w 226, 3) := by decide +kernel
theorem d_X8_volume_28 : decode mi_X8_volume.2.1 28 = .ok (.lreturn, 1) := by decide +kernel
theorem k_X8_226 : Cond.constantLong RX8 226 (-1) ∈ mtbl := by decide +kernel
theorem cw_X8_223 : CV RX8 223 mi_X8_area 1 := by unfold CV; decide +kernel
def f_X8_volume (v1 : Int32) (σ : SS) : Option (Int64 × SS) := cal (f_X8_isPiece v1 σ) (fun x2 s1 => if x2 = 0 then (some ((-1 : Int64), s1)) else (cal (f_X8_area v1 s1) (fun x4 s3 => chk (inr v1 60) (some (((Int32.toInt64 x4) * (Int32.toInt64 (s3.1 49 0 (ix v1)))), s3)))))
set_option maxRecDepth 20000 in
theorem t_X8_volume {d : Nat} {b : Nat × Nat} {v1 : Int32} {σ : SS} {r : Int64} {σ' : SS} (h : f_X8_volume v1 σ = some (r, σ')) : MM (d + 6) b mi_X8_volume [vR 25 0, vI v1] σ (some (vL r), σ') := by
  refine MM.of (lv := [some (vR 25 0), some (vI v1)]) (by decide +kernel) rfl rfl (fun X Y => ?_)
  rw [f_X8_volume] at h
  refine r_aload_n (pc' := 1) d_X8_volume_0 rfl rfl rfl ?_
  refine r_iload_n (pc' := 2) d_X8_volume_1 rfl rfl rfl ?_
  refine v1_i (mc := mi_X8_isPiece) (bc := (0, 0)) (b' := _) (pc' := 5) cw_X8_192 d_X8_volume_2 rfl rfl rfl (Nat.zero_add _).symm (Nat.zero_add _).symm rfl h (fun _ _ e => t_X8_isPiece e) (fun x2 s1 h => ?_)
  refine r_if_eq (pcT := 25) (pc' := 8) d_X8_volume_5 rfl rfl h (fun _ h => ?_) (fun _ h => ?_)
  · refine r_ldc2 (pc' := 28) k_X8_226 d_X8_volume_25 rfl ?_
    exact r_lret d_X8_volume_28 rfl h
  · refine r_aload_n (pc' := 9) d_X8_volume_8 rfl rfl rfl ?_
    refine r_iload_n (pc' := 10) d_X8_volume_9 rfl rfl rfl ?_
    refine v1_i (mc := mi_X8_area) (bc := (0, 0)) (b' := _) (pc' := 13) cw_X8_223 d_X8_volume_10 rfl rfl rfl (Nat.zero_add _).symm (Nat.zero_add _).symm rfl h (fun _ _ e => t_X8_area e) (fun x4 s3 h => ?_)
    refine r_i2l (pc' := 14) d_X8_volume_13 rfl ?_
    refine r_aload_n (pc' := 15) d_X8_volume_14 rfl rfl rfl ?_
    refine r_get (v := vR 49 _) (pc' := 18) fl_X8_35 d_X8_volume_15 rfl rfl (fun g => Or.inl ⟨rfl, g.2⟩) rfl ?_
    refine r_iload_n (pc' := 19) d_X8_volume_18 rfl rfl rfl ?_
    refine r_iaload (pc' := 20) d_X8_volume_19 rfl (fun _ => rfl) rfl h (fun h => ?_)
    refine r_i2l (pc' := 21) d_X8_volume_20 rfl ?_
    refine r_lmul (pc' := 22) d_X8_volume_21 rfl ?_
    refine r_goto (pc' := 28) d_X8_volume_22 rfl ?_
    exact r_lret d_X8_volume_28 rfl h
/-! OctagonYardModel.inside(III)I -/
def mi_X8_inside : MI := (yX8_inside, cX8_inside, 7, (some .int))
theorem d_X8_inside_0 : decode mi_X8_inside.2.1 0 = .ok (.aload_n 0, 1) := by decide +kernel
theorem d_X8_inside_1 : decode mi_X8_inside.2.1 1 = .ok (.iload_n 1, 1) := by decide +kernel
theorem d_X8_inside_2 : decode mi_X8_inside.2.1 2 = .ok (.invokevirtual 192, 3) := by decide +kernel
theorem d_X8_inside_5 : decode mi_X8_inside.2.1 5 = .ok (.ifCond .eq 31, 3) := by decide +kernel
theorem d_X8_inside_8 : decode mi_X8_inside.2.1 8 = .ok (.iload_n 2, 1) := by decide +kernel
theorem d_X8_inside_9 : decode mi_X8_inside.2.1 9 = .ok (.i2l, 1) := by decide +kernel
theorem d_X8_inside_10 : decode mi_X8_inside.2.1 10 = .ok (.ldc2_w 228, 3) := by decide +kernel
theorem d_X8_inside_13 : decode mi_X8_inside.2.1 13 = .ok (.ldc2_w 230, 3) := by decide +kernel
theorem d_X8_inside_16 : decode mi_X8_inside.2.1 16 = .ok (.invokestatic 139, 3) := by decide +kernel
theorem d_X8_inside_19 : decode mi_X8_inside.2.1 19 = .ok (.ifCond .eq 17, 3) := by decide +kernel
theorem d_X8_inside_22 : decode mi_X8_inside.2.1 22 = .ok (.iload_n 3, 1) := by decide +kernel
theorem d_X8_inside_23 : decode mi_X8_inside.2.1 23 = .ok (.i2l, 1) := by decide +kernel
theorem d_X8_inside_24 : decode mi_X8_inside.2.1 24 = .ok (.ldc2_w 228, 3) := by decide +kernel
theorem d_X8_inside_27 : decode mi_X8_inside.2.1 27 = .ok (.ldc2_w 230, 3) := by decide +kernel
theorem d_X8_inside_30 : decode mi_X8_inside.2.1 30 = .ok (.invokestatic 139, 3) := by decide +kernel
theorem d_X8_inside_33 : decode mi_X8_inside.2.1 33 = .ok (.ifCond .ne 5, 3) := by decide +kernel
theorem d_X8_inside_36 : decode mi_X8_inside.2.1 36 = .ok (.iconst (-1), 1) := by decide +kernel
theorem d_X8_inside_37 : decode mi_X8_inside.2.1 37 = .ok (.ireturn, 1) := by decide +kernel
theorem d_X8_inside_38 : decode mi_X8_inside.2.1 38 = .ok (.iconst 2, 1) := by decide +kernel
theorem d_X8_inside_39 : decode mi_X8_inside.2.1 39 = .ok (.istore 4, 2) := by decide +kernel
theorem d_X8_inside_41 : decode mi_X8_inside.2.1 41 = .ok (.iconst 0, 1) := by decide +kernel
theorem d_X8_inside_42 : decode mi_X8_inside.2.1 42 = .ok (.istore 5, 2) := by decide +kernel
theorem d_X8_inside_44 : decode mi_X8_inside.2.1 44 = .ok (.iload 5, 2) := by decide +kernel
theorem d_X8_inside_46 : decode mi_X8_inside.2.1 46 = .ok (.bipush 8, 2) := by decide +kernel
theorem d_X8_inside_48 : decode mi_X8_inside.2.1 48 = .ok (.if_icmp .ge 73, 3) := by decide +kernel
theorem d_X8_inside_51 : decode mi_X8_inside.2.1 51 = .ok (.aload_n 0, 1) := by decide +kernel
theorem d_X8_inside_52 : decode mi_X8_inside.2.1 52 = .ok (.getfield 7, 3) := by decide +kernel
theorem d_X8_inside_55 : decode mi_X8_inside.2.1 55 = .ok (.iload 5, 2) := by decide +kernel
theorem d_X8_inside_57 : decode mi_X8_inside.2.1 57 = .ok (.iaload, 1) := by decide +kernel
theorem d_X8_inside_58 : decode mi_X8_inside.2.1 58 = .ok (.iload_n 2, 1) := by decide +kernel
theorem d_X8_inside_59 : decode mi_X8_inside.2.1 59 = .ok (.imul, 1) := by decide +kernel
theorem d_X8_inside_60 : decode mi_X8_inside.2.1 60 = .ok (.aload_n 0, 1) := by decide +kernel
theorem d_X8_inside_61 : decode mi_X8_inside.2.1 61 = .ok (.getfield 13, 3) := by decide +kernel
theorem d_X8_inside_64 : decode mi_X8_inside.2.1 64 = .ok (.iload 5, 2) := by decide +kernel
theorem d_X8_inside_66 : decode mi_X8_inside.2.1 66 = .ok (.iaload, 1) := by decide +kernel
theorem d_X8_inside_67 : decode mi_X8_inside.2.1 67 = .ok (.iload_n 3, 1) := by decide +kernel
theorem d_X8_inside_68 : decode mi_X8_inside.2.1 68 = .ok (.imul, 1) := by decide +kernel
theorem d_X8_inside_69 : decode mi_X8_inside.2.1 69 = .ok (.iadd, 1) := by decide +kernel
theorem d_X8_inside_70 : decode mi_X8_inside.2.1 70 = .ok (.iconst 2, 1) := by decide +kernel
theorem d_X8_inside_71 : decode mi_X8_inside.2.1 71 = .ok (.aload_n 0, 1) := by decide +kernel
theorem d_X8_inside_72 : decode mi_X8_inside.2.1 72 = .ok (.getfield 32, 3) := by decide +kernel
theorem d_X8_inside_75 : decode mi_X8_inside.2.1 75 = .ok (.bipush 8, 2) := by decide +kernel
theorem d_X8_inside_77 : decode mi_X8_inside.2.1 77 = .ok (.iload_n 1, 1) := by decide +kernel
theorem d_X8_inside_78 : decode mi_X8_inside.2.1 78 = .ok (.imul, 1) := by decide +kernel
theorem d_X8_inside_79 : decode mi_X8_inside.2.1 79 = .ok (.iload 5, 2) := by decide +kernel
theorem d_X8_inside_81 : decode mi_X8_inside.2.1 81 = .ok (.iadd, 1) := by decide +kernel
theorem d_X8_inside_82 : decode mi_X8_inside.2.1 82 = .ok (.iaload, 1) := by decide +kernel
theorem d_X8_inside_83 : decode mi_X8_inside.2.1 83 = .ok (.imul, 1) := by decide +kernel
theorem d_X8_inside_84 : decode mi_X8_inside.2.1 84 = .ok (.isub, 1) := by decide +kernel
theorem d_X8_inside_85 : decode mi_X8_inside.2.1 85 = .ok (.istore 6, 2) := by decide +kernel
theorem d_X8_inside_87 : decode mi_X8_inside.2.1 87 = .ok (.iload 6, 2) := by decide +kernel
theorem d_X8_inside_89 : decode mi_X8_inside.2.1 89 = .ok (.ifCond .le 7, 3) := by decide +kernel
theorem d_X8_inside_92 : decode mi_X8_inside.2.1 92 = .ok (.iconst 0, 1) := by decide +kernel
theorem d_X8_inside_93 : decode mi_X8_inside.2.1 93 = .ok (.goto 20, 3) := by decide +kernel
theorem d_X8_inside_96 : decode mi_X8_inside.2.1 96 = .ok (.iload 6, 2) := by decide +kernel
theorem d_X8_inside_98 : decode mi_X8_inside.2.1 98 = .ok (.ifCond .ne 13, 3) := by decide +kernel
theorem d_X8_inside_101 : decode mi_X8_inside.2.1 101 = .ok (.iload 4, 2) := by decide +kernel
theorem d_X8_inside_103 : decode mi_X8_inside.2.1 103 = .ok (.iconst 2, 1) := by decide +kernel
theorem d_X8_inside_104 : decode mi_X8_inside.2.1 104 = .ok (.if_icmp .ne 7, 3) := by decide +kernel
theorem d_X8_inside_107 : decode mi_X8_inside.2.1 107 = .ok (.iconst 1, 1) := by decide +kernel
theorem d_X8_inside_108 : decode mi_X8_inside.2.1 108 = .ok (.goto 5, 3) := by decide +kernel
theorem d_X8_inside_111 : decode mi_X8_inside.2.1 111 = .ok (.iload 4, 2) := by decide +kernel
theorem d_X8_inside_113 : decode mi_X8_inside.2.1 113 = .ok (.istore 4, 2) := by decide +kernel
theorem d_X8_inside_115 : decode mi_X8_inside.2.1 115 = .ok (.iinc 5 1, 3) := by decide +kernel
theorem d_X8_inside_118 : decode mi_X8_inside.2.1 118 = .ok (.goto (-74), 3) := by decide +kernel
theorem d_X8_inside_121 : decode mi_X8_inside.2.1 121 = .ok (.iload 4, 2) := by decide +kernel
theorem d_X8_inside_123 : decode mi_X8_inside.2.1 123 = .ok (.ireturn, 1) := by decide +kernel
theorem k_X8_228 : Cond.constantLong RX8 228 (-10000) ∈ mtbl := by decide +kernel
theorem k_X8_230 : Cond.constantLong RX8 230 (10000) ∈ mtbl := by decide +kernel
def f_X8_inside_113 (K44 : Int32 → Int32 → Int32 → Int32 → Int32 → SS → Option (Int32 × SS)) (v1 : Int32) (v2 : Int32) (v3 : Int32) (v5 : Int32) (u0 : Int32) (σ : SS) : Option (Int32 × SS) := lt_ (v5 + (1 : Int32)) (fun x1 => K44 v1 v2 v3 u0 x1 σ)
set_option maxRecDepth 20000 in
theorem t_X8_inside_113 {d : Nat} {X : MX} {Y : MY} {b : Nat × Nat} {r : Int32} {σ' : SS} {K44 : Int32 → Int32 → Int32 → Int32 → Int32 → SS → Option (Int32 × SS)} {v1 : Int32} {v2 : Int32} {v3 : Int32} {v5 : Int32} {u0 : Int32} (hK44 : ∀ (v1 : Int32) (v2 : Int32) (v3 : Int32) (v4 : Int32) (v5 : Int32) (σ : SS), K44 v1 v2 v3 v4 v5 σ = some (r, σ') → WM (d + 2) X Y b mi_X8_inside 44 [some (vR 25 0), some (vI v1), some (vI v2), some (vI v3), some (vI v4), some (vI v5), none] [] σ (some (vI r), σ')) {σ : SS} (h : f_X8_inside_113 K44 v1 v2 v3 v5 u0 σ = some (r, σ')) : WM (d + 2) X Y b mi_X8_inside 113 [some (vR 25 0), some (vI v1), some (vI v2), some (vI v3), none, some (vI v5), none] [vI u0] σ (some (vI r), σ') := by
  rw [f_X8_inside_113] at h
  refine r_istore (pc' := 115) d_X8_inside_113 rfl rfl rfl ?_
  refine l_iinc (pc' := 118) d_X8_inside_115 rfl ci_1 rfl rfl rfl h (fun x1 h => ?_)
  refine r_goto (pc' := 44) d_X8_inside_118 rfl ?_
  exact WM.drop [] rfl (hK44 _ _ _ _ _ _ h)
def f_X8_inside_111 (K44 : Int32 → Int32 → Int32 → Int32 → Int32 → SS → Option (Int32 × SS)) (v1 : Int32) (v2 : Int32) (v3 : Int32) (v4 : Int32) (v5 : Int32) (σ : SS) : Option (Int32 × SS) := f_X8_inside_113 K44 v1 v2 v3 v5 v4 σ
set_option maxRecDepth 20000 in
theorem t_X8_inside_111 {d : Nat} {X : MX} {Y : MY} {b : Nat × Nat} {r : Int32} {σ' : SS} {K44 : Int32 → Int32 → Int32 → Int32 → Int32 → SS → Option (Int32 × SS)} {v1 : Int32} {v2 : Int32} {v3 : Int32} {v4 : Int32} {v5 : Int32} (hK44 : ∀ (v1 : Int32) (v2 : Int32) (v3 : Int32) (v4 : Int32) (v5 : Int32) (σ : SS), K44 v1 v2 v3 v4 v5 σ = some (r, σ') → WM (d + 2) X Y b mi_X8_inside 44 [some (vR 25 0), some (vI v1), some (vI v2), some (vI v3), some (vI v4), some (vI v5), none] [] σ (some (vI r), σ')) {σ : SS} (h : f_X8_inside_111 K44 v1 v2 v3 v4 v5 σ = some (r, σ')) : WM (d + 2) X Y b mi_X8_inside 111 [some (vR 25 0), some (vI v1), some (vI v2), some (vI v3), some (vI v4), some (vI v5), none] [] σ (some (vI r), σ') := by
  rw [f_X8_inside_111] at h
  refine r_iload (pc' := 113) d_X8_inside_111 rfl rfl ?_
  exact WM.drop [4] rfl (t_X8_inside_113 hK44 h)
def f_X8_inside_44 : Nat → Int32 → Int32 → Int32 → Int32 → Int32 → SS → Option (Int32 × SS)
  | 0, _, _, _, _, _, _ => none
  | n + 1, v1, v2, v3, v4, v5, σ => if (8 : Int32) ≤ v5 then (some (v4, σ)) else (chk (inr v5 8) (chk (inr v5 8) (chk (inr (((8 : Int32) * v1) + v5) 480) (lt_ ((((σ.1 40 0 (ix v5)) * v2) + ((σ.1 41 0 (ix v5)) * v3)) - ((2 : Int32) * (σ.1 48 0 (ix (((8 : Int32) * v1) + v5))))) (fun x1 => if x1 ≤ 0 then (if x1 = 0 then (if v4 = (2 : Int32) then (f_X8_inside_113 (f_X8_inside_44 n) v1 v2 v3 v5 (1 : Int32) σ) else (f_X8_inside_111 (f_X8_inside_44 n) v1 v2 v3 v4 v5 σ)) else (f_X8_inside_111 (f_X8_inside_44 n) v1 v2 v3 v4 v5 σ)) else (f_X8_inside_113 (f_X8_inside_44 n) v1 v2 v3 v5 (0 : Int32) σ))))))
set_option maxRecDepth 20000 in
theorem t_X8_inside_44 {d : Nat} {X : MX} {Y : MY} {b : Nat × Nat} {r : Int32} {σ' : SS} : ∀ (n : Nat) (v1 : Int32) (v2 : Int32) (v3 : Int32) (v4 : Int32) (v5 : Int32) (σ : SS), f_X8_inside_44 n v1 v2 v3 v4 v5 σ = some (r, σ') → WM (d + 2) X Y b mi_X8_inside 44 [some (vR 25 0), some (vI v1), some (vI v2), some (vI v3), some (vI v4), some (vI v5), none] [] σ (some (vI r), σ') := by
  intro n
  induction n with
  | zero => intro _ _ _ _ _ σ h; cases h
  | succ n ih =>
    intro v1 v2 v3 v4 v5 σ h
    rw [f_X8_inside_44] at h
    refine r_iload (pc' := 46) d_X8_inside_44 rfl rfl ?_
    refine r_bipush (pc' := 48) d_X8_inside_46 cb_8 rfl ?_
    refine r_icmp_ge (pcT := 121) (pc' := 51) d_X8_inside_48 rfl rfl h (fun _ h => ?_) (fun _ h => ?_)
    · refine r_iload (pc' := 123) d_X8_inside_121 rfl rfl ?_
      exact r_iret d_X8_inside_123 rfl h
    · refine r_aload_n (pc' := 52) d_X8_inside_51 rfl rfl rfl ?_
      refine r_get (v := vR 40 _) (pc' := 55) fl_X8_7 d_X8_inside_52 rfl rfl (fun g => Or.inl ⟨rfl, g.2⟩) rfl ?_
      refine r_iload (pc' := 57) d_X8_inside_55 rfl rfl ?_
      refine r_iaload (pc' := 58) d_X8_inside_57 rfl (fun _ => rfl) rfl h (fun h => ?_)
      refine r_iload_n (pc' := 59) d_X8_inside_58 rfl rfl rfl ?_
      refine r_imul (pc' := 60) d_X8_inside_59 rfl ?_
      refine r_aload_n (pc' := 61) d_X8_inside_60 rfl rfl rfl ?_
      refine r_get (v := vR 41 _) (pc' := 64) fl_X8_13 d_X8_inside_61 rfl rfl (fun g => Or.inl ⟨rfl, g.2⟩) rfl ?_
      refine r_iload (pc' := 66) d_X8_inside_64 rfl rfl ?_
      refine r_iaload (pc' := 67) d_X8_inside_66 rfl (fun _ => rfl) rfl h (fun h => ?_)
      refine r_iload_n (pc' := 68) d_X8_inside_67 rfl rfl rfl ?_
      refine r_imul (pc' := 69) d_X8_inside_68 rfl ?_
      refine r_iadd (pc' := 70) d_X8_inside_69 rfl ?_
      refine r_iconst (pc' := 71) d_X8_inside_70 ci_2 rfl ?_
      refine r_aload_n (pc' := 72) d_X8_inside_71 rfl rfl rfl ?_
      refine r_get (v := vR 48 _) (pc' := 75) fl_X8_32 d_X8_inside_72 rfl rfl (fun g => Or.inl ⟨rfl, g.2⟩) rfl ?_
      refine r_bipush (pc' := 77) d_X8_inside_75 cb_8 rfl ?_
      refine r_iload_n (pc' := 78) d_X8_inside_77 rfl rfl rfl ?_
      refine r_imul (pc' := 79) d_X8_inside_78 rfl ?_
      refine r_iload (pc' := 81) d_X8_inside_79 rfl rfl ?_
      refine r_iadd (pc' := 82) d_X8_inside_81 rfl ?_
      refine r_iaload (pc' := 83) d_X8_inside_82 rfl (fun _ => rfl) rfl h (fun h => ?_)
      refine r_imul (pc' := 84) d_X8_inside_83 rfl ?_
      refine r_isub (pc' := 85) d_X8_inside_84 rfl ?_
      refine l_istore (pc' := 87) d_X8_inside_85 rfl rfl rfl h (fun x1 h => ?_)
      refine r_iload (pc' := 89) d_X8_inside_87 rfl rfl ?_
      refine r_if_le (pcT := 96) (pc' := 92) d_X8_inside_89 rfl rfl h (fun _ h => ?_) (fun _ h => ?_)
      · refine r_iload (pc' := 98) d_X8_inside_96 rfl rfl ?_
        refine r_if_ne (pcT := 111) (pc' := 101) d_X8_inside_98 rfl rfl h (fun _ h => ?_) (fun _ h => ?_)
        · refine r_iload (pc' := 103) d_X8_inside_101 rfl rfl ?_
          refine r_iconst (pc' := 104) d_X8_inside_103 ci_2 rfl ?_
          refine r_icmp_ne (pcT := 111) (pc' := 107) d_X8_inside_104 rfl rfl h (fun _ h => ?_) (fun _ h => ?_)
          · refine r_iconst (pc' := 108) d_X8_inside_107 ci_1 rfl ?_
            refine r_goto (pc' := 113) d_X8_inside_108 rfl ?_
            exact WM.drop [4, 6] rfl (t_X8_inside_113 ih h)
          · exact WM.drop [6] rfl (t_X8_inside_111 ih h)
        · exact WM.drop [6] rfl (t_X8_inside_111 ih h)
      · refine r_iconst (pc' := 93) d_X8_inside_92 ci_0 rfl ?_
        refine r_goto (pc' := 113) d_X8_inside_93 rfl ?_
        exact WM.drop [4, 6] rfl (t_X8_inside_113 ih h)
def f_X8_inside (v1 : Int32) (v2 : Int32) (v3 : Int32) (σ : SS) : Option (Int32 × SS) := cal (f_X8_isPiece v1 σ) (fun x2 s1 => if x2 = 0 then (some ((-1 : Int32), s1)) else (cal (f_X8_in (Int32.toInt64 v2) (-10000 : Int64) (10000 : Int64) s1) (fun x4 s3 => if x4 = 0 then (some ((-1 : Int32), s3)) else (cal (f_X8_in (Int32.toInt64 v3) (-10000 : Int64) (10000 : Int64) s3) (fun x6 s5 => if x6 = 0 then (some ((-1 : Int32), s5)) else (f_X8_inside_44 FU v1 v2 v3 (2 : Int32) (0 : Int32) s5))))))
set_option maxRecDepth 20000 in
theorem t_X8_inside {d : Nat} {b : Nat × Nat} {v1 : Int32} {v2 : Int32} {v3 : Int32} {σ : SS} {r : Int32} {σ' : SS} (h : f_X8_inside v1 v2 v3 σ = some (r, σ')) : MM (d + 2) b mi_X8_inside [vR 25 0, vI v1, vI v2, vI v3] σ (some (vI r), σ') := by
  refine MM.of (lv := [some (vR 25 0), some (vI v1), some (vI v2), some (vI v3), none, none, none]) (by decide +kernel) rfl rfl (fun X Y => ?_)
  rw [f_X8_inside] at h
  refine r_aload_n (pc' := 1) d_X8_inside_0 rfl rfl rfl ?_
  refine r_iload_n (pc' := 2) d_X8_inside_1 rfl rfl rfl ?_
  refine v1_i (mc := mi_X8_isPiece) (bc := (0, 0)) (b' := _) (pc' := 5) cw_X8_192 d_X8_inside_2 rfl rfl rfl (Nat.zero_add _).symm (Nat.zero_add _).symm rfl h (fun _ _ e => t_X8_isPiece e) (fun x2 s1 h => ?_)
  refine r_if_eq (pcT := 36) (pc' := 8) d_X8_inside_5 rfl rfl h (fun _ h => ?_) (fun _ h => ?_)
  · refine r_iconst (pc' := 37) d_X8_inside_36 ci_m1 rfl ?_
    exact r_iret d_X8_inside_37 rfl h
  · refine r_iload_n (pc' := 9) d_X8_inside_8 rfl rfl rfl ?_
    refine r_i2l (pc' := 10) d_X8_inside_9 rfl ?_
    refine r_ldc2 (pc' := 13) k_X8_228 d_X8_inside_10 rfl ?_
    refine r_ldc2 (pc' := 16) k_X8_230 d_X8_inside_13 rfl ?_
    refine s3_i (mc := mi_X8_in) (bc := (0, 0)) (b' := _) (pc' := 19) cw_X8_139 d_X8_inside_16 rfl (Nat.zero_add _).symm (Nat.zero_add _).symm rfl h (fun _ _ e => t_X8_in e) (fun x4 s3 h => ?_)
    refine r_if_eq (pcT := 36) (pc' := 22) d_X8_inside_19 rfl rfl h (fun _ h => ?_) (fun _ h => ?_)
    · refine r_iconst (pc' := 37) d_X8_inside_36 ci_m1 rfl ?_
      exact r_iret d_X8_inside_37 rfl h
    · refine r_iload_n (pc' := 23) d_X8_inside_22 rfl rfl rfl ?_
      refine r_i2l (pc' := 24) d_X8_inside_23 rfl ?_
      refine r_ldc2 (pc' := 27) k_X8_228 d_X8_inside_24 rfl ?_
      refine r_ldc2 (pc' := 30) k_X8_230 d_X8_inside_27 rfl ?_
      refine s3_i (mc := mi_X8_in) (bc := (0, 0)) (b' := _) (pc' := 33) cw_X8_139 d_X8_inside_30 rfl (Nat.zero_add _).symm (Nat.zero_add _).symm rfl h (fun _ _ e => t_X8_in e) (fun x6 s5 h => ?_)
      refine r_if_ne (pcT := 38) (pc' := 36) d_X8_inside_33 rfl rfl h (fun _ h => ?_) (fun _ h => ?_)
      · refine r_iconst (pc' := 37) d_X8_inside_36 ci_m1 rfl ?_
        exact r_iret d_X8_inside_37 rfl h
      · refine r_iconst (pc' := 39) d_X8_inside_38 ci_2 rfl ?_
        refine r_istore (pc' := 41) d_X8_inside_39 rfl rfl rfl ?_
        refine r_iconst (pc' := 42) d_X8_inside_41 ci_0 rfl ?_
        refine r_istore (pc' := 44) d_X8_inside_42 rfl rfl rfl ?_
        exact WM.drop [] rfl (t_X8_inside_44 _ _ _ _ _ _ _ h)
