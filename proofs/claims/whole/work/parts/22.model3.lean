/-! OctagonYardModel.waste(I)I -/
def mi_X8_waste : MI := (yX8_waste, cX8_waste, 4, (some .int))
theorem d_X8_waste_0 : decode mi_X8_waste.2.1 0 = .ok (.iload_n 1, 1) := by decide +kernel
theorem d_X8_waste_1 : decode mi_X8_waste.2.1 1 = .ok (.i2l, 1) := by decide +kernel
theorem d_X8_waste_2 : decode mi_X8_waste.2.1 2 = .ok (.lconst 0, 1) := by decide +kernel
theorem d_X8_waste_3 : decode mi_X8_waste.2.1 3 = .ok (.aload_n 0, 1) := by decide +kernel
theorem d_X8_waste_4 : decode mi_X8_waste.2.1 4 = .ok (.getfield 135, 3) := by decide +kernel
theorem d_X8_waste_7 : decode mi_X8_waste.2.1 7 = .ok (.iconst 1, 1) := by decide +kernel
theorem d_X8_waste_8 : decode mi_X8_waste.2.1 8 = .ok (.isub, 1) := by decide +kernel
theorem d_X8_waste_9 : decode mi_X8_waste.2.1 9 = .ok (.i2l, 1) := by decide +kernel
theorem d_X8_waste_10 : decode mi_X8_waste.2.1 10 = .ok (.invokestatic 139, 3) := by decide +kernel
theorem d_X8_waste_13 : decode mi_X8_waste.2.1 13 = .ok (.ifCond .eq 12, 3) := by decide +kernel
theorem d_X8_waste_16 : decode mi_X8_waste.2.1 16 = .ok (.aload_n 0, 1) := by decide +kernel
theorem d_X8_waste_17 : decode mi_X8_waste.2.1 17 = .ok (.getfield 41, 3) := by decide +kernel
theorem d_X8_waste_20 : decode mi_X8_waste.2.1 20 = .ok (.iload_n 1, 1) := by decide +kernel
theorem d_X8_waste_21 : decode mi_X8_waste.2.1 21 = .ok (.baload, 1) := by decide +kernel
theorem d_X8_waste_22 : decode mi_X8_waste.2.1 22 = .ok (.ifCond .ne 5, 3) := by decide +kernel
theorem d_X8_waste_25 : decode mi_X8_waste.2.1 25 = .ok (.iconst (-1), 1) := by decide +kernel
theorem d_X8_waste_26 : decode mi_X8_waste.2.1 26 = .ok (.ireturn, 1) := by decide +kernel
theorem d_X8_waste_27 : decode mi_X8_waste.2.1 27 = .ok (.aload_n 0, 1) := by decide +kernel
theorem d_X8_waste_28 : decode mi_X8_waste.2.1 28 = .ok (.getfield 44, 3) := by decide +kernel
theorem d_X8_waste_31 : decode mi_X8_waste.2.1 31 = .ok (.iload_n 1, 1) := by decide +kernel
theorem d_X8_waste_32 : decode mi_X8_waste.2.1 32 = .ok (.iaload, 1) := by decide +kernel
theorem d_X8_waste_33 : decode mi_X8_waste.2.1 33 = .ok (.istore_n 2, 1) := by decide +kernel
theorem d_X8_waste_34 : decode mi_X8_waste.2.1 34 = .ok (.iconst 0, 1) := by decide +kernel
theorem d_X8_waste_35 : decode mi_X8_waste.2.1 35 = .ok (.istore_n 3, 1) := by decide +kernel
theorem d_X8_waste_36 : decode mi_X8_waste.2.1 36 = .ok (.iload_n 3, 1) := by decide +kernel
theorem d_X8_waste_37 : decode mi_X8_waste.2.1 37 = .ok (.aload_n 0, 1) := by decide +kernel
theorem d_X8_waste_38 : decode mi_X8_waste.2.1 38 = .ok (.getfield 135, 3) := by decide +kernel
theorem d_X8_waste_41 : decode mi_X8_waste.2.1 41 = .ok (.if_icmp .ge 40, 3) := by decide +kernel
theorem d_X8_waste_44 : decode mi_X8_waste.2.1 44 = .ok (.iload_n 2, 1) := by decide +kernel
theorem d_X8_waste_45 : decode mi_X8_waste.2.1 45 = .ok (.aload_n 0, 1) := by decide +kernel
theorem d_X8_waste_46 : decode mi_X8_waste.2.1 46 = .ok (.getfield 28, 3) := by decide +kernel
theorem d_X8_waste_49 : decode mi_X8_waste.2.1 49 = .ok (.iload_n 3, 1) := by decide +kernel
theorem d_X8_waste_50 : decode mi_X8_waste.2.1 50 = .ok (.baload, 1) := by decide +kernel
theorem d_X8_waste_51 : decode mi_X8_waste.2.1 51 = .ok (.ifCond .eq 21, 3) := by decide +kernel
theorem d_X8_waste_54 : decode mi_X8_waste.2.1 54 = .ok (.aload_n 0, 1) := by decide +kernel
theorem d_X8_waste_55 : decode mi_X8_waste.2.1 55 = .ok (.getfield 38, 3) := by decide +kernel
theorem d_X8_waste_58 : decode mi_X8_waste.2.1 58 = .ok (.iload_n 3, 1) := by decide +kernel
theorem d_X8_waste_59 : decode mi_X8_waste.2.1 59 = .ok (.iaload, 1) := by decide +kernel
theorem d_X8_waste_60 : decode mi_X8_waste.2.1 60 = .ok (.iload_n 1, 1) := by decide +kernel
theorem d_X8_waste_61 : decode mi_X8_waste.2.1 61 = .ok (.if_icmp .ne 11, 3) := by decide +kernel
theorem d_X8_waste_64 : decode mi_X8_waste.2.1 64 = .ok (.aload_n 0, 1) := by decide +kernel
theorem d_X8_waste_65 : decode mi_X8_waste.2.1 65 = .ok (.iload_n 3, 1) := by decide +kernel
theorem d_X8_waste_66 : decode mi_X8_waste.2.1 66 = .ok (.invokevirtual 223, 3) := by decide +kernel
theorem d_X8_waste_69 : decode mi_X8_waste.2.1 69 = .ok (.goto 4, 3) := by decide +kernel
theorem d_X8_waste_72 : decode mi_X8_waste.2.1 72 = .ok (.iconst 0, 1) := by decide +kernel
theorem d_X8_waste_73 : decode mi_X8_waste.2.1 73 = .ok (.isub, 1) := by decide +kernel
theorem d_X8_waste_74 : decode mi_X8_waste.2.1 74 = .ok (.istore_n 2, 1) := by decide +kernel
theorem d_X8_waste_75 : decode mi_X8_waste.2.1 75 = .ok (.iinc 3 1, 3) := by decide +kernel
theorem d_X8_waste_78 : decode mi_X8_waste.2.1 78 = .ok (.goto (-42), 3) := by decide +kernel
theorem d_X8_waste_81 : decode mi_X8_waste.2.1 81 = .ok (.iload_n 2, 1) := by decide +kernel
theorem d_X8_waste_82 : decode mi_X8_waste.2.1 82 = .ok (.ireturn, 1) := by decide +kernel
def f_X8_waste_73 (K36 : Int32 → Int32 → Int32 → SS → Option (Int32 × SS)) (v1 : Int32) (v3 : Int32) (u0 : Int32) (u1 : Int32) (σ : SS) : Option (Int32 × SS) := lt_ (u0 - u1) (fun x1 => lt_ (v3 + (1 : Int32)) (fun x2 => K36 v1 x1 x2 σ))
set_option maxRecDepth 20000 in
theorem t_X8_waste_73 {d : Nat} {X : MX} {Y : MY} {b : Nat × Nat} {r : Int32} {σ' : SS} {K36 : Int32 → Int32 → Int32 → SS → Option (Int32 × SS)} {v1 : Int32} {v3 : Int32} {u0 : Int32} {u1 : Int32} (hK36 : ∀ (v1 : Int32) (v2 : Int32) (v3 : Int32) (σ : SS), K36 v1 v2 v3 σ = some (r, σ') → WM (d + 6) X Y b mi_X8_waste 36 [some (vR 25 0), some (vI v1), some (vI v2), some (vI v3)] [] σ (some (vI r), σ')) {σ : SS} (h : f_X8_waste_73 K36 v1 v3 u0 u1 σ = some (r, σ')) : WM (d + 6) X Y b mi_X8_waste 73 [some (vR 25 0), some (vI v1), none, some (vI v3)] [vI u1, vI u0] σ (some (vI r), σ') := by
  rw [f_X8_waste_73] at h
  refine r_isub (pc' := 74) d_X8_waste_73 rfl ?_
  refine l_istore_n (pc' := 75) d_X8_waste_74 rfl rfl rfl rfl h (fun x1 h => ?_)
  refine l_iinc (pc' := 78) d_X8_waste_75 rfl ci_1 rfl rfl rfl h (fun x2 h => ?_)
  refine r_goto (pc' := 36) d_X8_waste_78 rfl ?_
  exact WM.drop [] rfl (hK36 _ _ _ _ h)
def f_X8_waste_72 (K36 : Int32 → Int32 → Int32 → SS → Option (Int32 × SS)) (v1 : Int32) (v3 : Int32) (u0 : Int32) (σ : SS) : Option (Int32 × SS) := f_X8_waste_73 K36 v1 v3 u0 (0 : Int32) σ
set_option maxRecDepth 20000 in
theorem t_X8_waste_72 {d : Nat} {X : MX} {Y : MY} {b : Nat × Nat} {r : Int32} {σ' : SS} {K36 : Int32 → Int32 → Int32 → SS → Option (Int32 × SS)} {v1 : Int32} {v3 : Int32} {u0 : Int32} (hK36 : ∀ (v1 : Int32) (v2 : Int32) (v3 : Int32) (σ : SS), K36 v1 v2 v3 σ = some (r, σ') → WM (d + 6) X Y b mi_X8_waste 36 [some (vR 25 0), some (vI v1), some (vI v2), some (vI v3)] [] σ (some (vI r), σ')) {σ : SS} (h : f_X8_waste_72 K36 v1 v3 u0 σ = some (r, σ')) : WM (d + 6) X Y b mi_X8_waste 72 [some (vR 25 0), some (vI v1), none, some (vI v3)] [vI u0] σ (some (vI r), σ') := by
  rw [f_X8_waste_72] at h
  refine r_iconst (pc' := 73) d_X8_waste_72 ci_0 rfl ?_
  exact WM.drop [] rfl (t_X8_waste_73 hK36 h)
def f_X8_waste_36 : Nat → Int32 → Int32 → Int32 → SS → Option (Int32 × SS)
  | 0, _, _, _, _ => none
  | n + 1, v1, v2, v3, σ => if (σ.1 25 0 6) ≤ v3 then (some (v2, σ)) else (chk (inr v3 60) (if (σ.1 47 0 (ix v3)) = 0 then (f_X8_waste_72 (f_X8_waste_36 n) v1 v3 v2 σ) else (chk (inr v3 60) (if (σ.1 50 0 (ix v3)) = v1 then (cal (f_X8_area v3 σ) (fun x2 s1 => f_X8_waste_73 (f_X8_waste_36 n) v1 v3 v2 x2 s1)) else (f_X8_waste_72 (f_X8_waste_36 n) v1 v3 v2 σ)))))
set_option maxRecDepth 20000 in
theorem t_X8_waste_36 {d : Nat} {X : MX} {Y : MY} {b : Nat × Nat} {r : Int32} {σ' : SS} : ∀ (n : Nat) (v1 : Int32) (v2 : Int32) (v3 : Int32) (σ : SS), f_X8_waste_36 n v1 v2 v3 σ = some (r, σ') → WM (d + 6) X Y b mi_X8_waste 36 [some (vR 25 0), some (vI v1), some (vI v2), some (vI v3)] [] σ (some (vI r), σ') := by
  intro n
  induction n with
  | zero => intro _ _ _ σ h; cases h
  | succ n ih =>
    intro v1 v2 v3 σ h
    rw [f_X8_waste_36] at h
    refine r_iload_n (pc' := 37) d_X8_waste_36 rfl rfl rfl ?_
    refine r_aload_n (pc' := 38) d_X8_waste_37 rfl rfl rfl ?_
    refine r_get (v := vI _) (pc' := 41) fl_X8_135 d_X8_waste_38 rfl rfl (fun _ => trivial) rfl ?_
    refine r_icmp_ge (pcT := 81) (pc' := 44) d_X8_waste_41 rfl rfl h (fun _ h => ?_) (fun _ h => ?_)
    · refine r_iload_n (pc' := 82) d_X8_waste_81 rfl rfl rfl ?_
      exact r_iret d_X8_waste_82 rfl h
    · refine r_iload_n (pc' := 45) d_X8_waste_44 rfl rfl rfl ?_
      refine r_aload_n (pc' := 46) d_X8_waste_45 rfl rfl rfl ?_
      refine r_get (v := vR 47 _) (pc' := 49) fl_X8_28 d_X8_waste_46 rfl rfl (fun g => Or.inl ⟨rfl, g.2⟩) rfl ?_
      refine r_iload_n (pc' := 50) d_X8_waste_49 rfl rfl rfl ?_
      refine r_baload (pc' := 51) d_X8_waste_50 rfl (fun _ => rfl) rfl h (fun h => ?_)
      refine r_if_eq (pcT := 72) (pc' := 54) d_X8_waste_51 rfl rfl h (fun _ h => ?_) (fun _ h => ?_)
      · exact WM.drop [2] rfl (t_X8_waste_72 ih h)
      · refine r_aload_n (pc' := 55) d_X8_waste_54 rfl rfl rfl ?_
        refine r_get (v := vR 50 _) (pc' := 58) fl_X8_38 d_X8_waste_55 rfl rfl (fun g => Or.inl ⟨rfl, g.2⟩) rfl ?_
        refine r_iload_n (pc' := 59) d_X8_waste_58 rfl rfl rfl ?_
        refine r_iaload (pc' := 60) d_X8_waste_59 rfl (fun _ => rfl) rfl h (fun h => ?_)
        refine r_iload_n (pc' := 61) d_X8_waste_60 rfl rfl rfl ?_
        refine r_icmp_ne (pcT := 72) (pc' := 64) d_X8_waste_61 rfl rfl h (fun _ h => ?_) (fun _ h => ?_)
        · refine r_aload_n (pc' := 65) d_X8_waste_64 rfl rfl rfl ?_
          refine r_iload_n (pc' := 66) d_X8_waste_65 rfl rfl rfl ?_
          refine v1_i (mc := mi_X8_area) (bc := (0, 0)) (b' := _) (pc' := 69) cw_X8_223 d_X8_waste_66 rfl rfl rfl (Nat.zero_add _).symm (Nat.zero_add _).symm rfl h (fun _ _ e => t_X8_area e) (fun x2 s1 h => ?_)
          refine r_goto (pc' := 73) d_X8_waste_69 rfl ?_
          exact WM.drop [2] rfl (t_X8_waste_73 ih h)
        · exact WM.drop [2] rfl (t_X8_waste_72 ih h)
def f_X8_waste (v1 : Int32) (σ : SS) : Option (Int32 × SS) := cal (f_X8_in (Int32.toInt64 v1) (0 : Int64) (Int32.toInt64 ((σ.1 25 0 6) - (1 : Int32))) σ) (fun x2 s1 => if x2 = 0 then (some ((-1 : Int32), s1)) else (chk (inr v1 60) (if (s1.1 51 0 (ix v1)) = 0 then (some ((-1 : Int32), s1)) else (chk (inr v1 60) (lt_ (s1.1 52 0 (ix v1)) (fun x3 => f_X8_waste_36 FU v1 x3 (0 : Int32) s1))))))
set_option maxRecDepth 20000 in
theorem t_X8_waste {d : Nat} {b : Nat × Nat} {v1 : Int32} {σ : SS} {r : Int32} {σ' : SS} (h : f_X8_waste v1 σ = some (r, σ')) : MM (d + 6) b mi_X8_waste [vR 25 0, vI v1] σ (some (vI r), σ') := by
  refine MM.of (lv := [some (vR 25 0), some (vI v1), none, none]) (by decide +kernel) rfl rfl (fun X Y => ?_)
  rw [f_X8_waste] at h
  refine r_iload_n (pc' := 1) d_X8_waste_0 rfl rfl rfl ?_
  refine r_i2l (pc' := 2) d_X8_waste_1 rfl ?_
  refine r_lconst (pc' := 3) (x := 0) d_X8_waste_2 rfl rfl ?_
  refine r_aload_n (pc' := 4) d_X8_waste_3 rfl rfl rfl ?_
  refine r_get (v := vI _) (pc' := 7) fl_X8_135 d_X8_waste_4 rfl rfl (fun _ => trivial) rfl ?_
  refine r_iconst (pc' := 8) d_X8_waste_7 ci_1 rfl ?_
  refine r_isub (pc' := 9) d_X8_waste_8 rfl ?_
  refine r_i2l (pc' := 10) d_X8_waste_9 rfl ?_
  refine s3_i (mc := mi_X8_in) (bc := (0, 0)) (b' := _) (pc' := 13) cw_X8_139 d_X8_waste_10 rfl (Nat.zero_add _).symm (Nat.zero_add _).symm rfl h (fun _ _ e => t_X8_in e) (fun x2 s1 h => ?_)
  refine r_if_eq (pcT := 25) (pc' := 16) d_X8_waste_13 rfl rfl h (fun _ h => ?_) (fun _ h => ?_)
  · refine r_iconst (pc' := 26) d_X8_waste_25 ci_m1 rfl ?_
    exact r_iret d_X8_waste_26 rfl h
  · refine r_aload_n (pc' := 17) d_X8_waste_16 rfl rfl rfl ?_
    refine r_get (v := vR 51 _) (pc' := 20) fl_X8_41 d_X8_waste_17 rfl rfl (fun g => Or.inl ⟨rfl, g.2⟩) rfl ?_
    refine r_iload_n (pc' := 21) d_X8_waste_20 rfl rfl rfl ?_
    refine r_baload (pc' := 22) d_X8_waste_21 rfl (fun _ => rfl) rfl h (fun h => ?_)
    refine r_if_ne (pcT := 27) (pc' := 25) d_X8_waste_22 rfl rfl h (fun _ h => ?_) (fun _ h => ?_)
    · refine r_iconst (pc' := 26) d_X8_waste_25 ci_m1 rfl ?_
      exact r_iret d_X8_waste_26 rfl h
    · refine r_aload_n (pc' := 28) d_X8_waste_27 rfl rfl rfl ?_
      refine r_get (v := vR 52 _) (pc' := 31) fl_X8_44 d_X8_waste_28 rfl rfl (fun g => Or.inl ⟨rfl, g.2⟩) rfl ?_
      refine r_iload_n (pc' := 32) d_X8_waste_31 rfl rfl rfl ?_
      refine r_iaload (pc' := 33) d_X8_waste_32 rfl (fun _ => rfl) rfl h (fun h => ?_)
      refine l_istore_n (pc' := 34) d_X8_waste_33 rfl rfl rfl rfl h (fun x3 h => ?_)
      refine r_iconst (pc' := 35) d_X8_waste_34 ci_0 rfl ?_
      refine r_istore_n (pc' := 36) d_X8_waste_35 rfl rfl rfl rfl ?_
      exact WM.drop [] rfl (t_X8_waste_36 _ _ _ _ _ h)
/-! OctagonYardModel.overlaps(II)Z -/
def mi_X8_overlaps : MI := (yX8_overlaps, cX8_overlaps, 6, (some .boolean))
theorem d_X8_overlaps_0 : decode mi_X8_overlaps.2.1 0 = .ok (.iconst 0, 1) := by decide +kernel
theorem d_X8_overlaps_1 : decode mi_X8_overlaps.2.1 1 = .ok (.istore_n 3, 1) := by decide +kernel
theorem d_X8_overlaps_2 : decode mi_X8_overlaps.2.1 2 = .ok (.iload_n 3, 1) := by decide +kernel
theorem d_X8_overlaps_3 : decode mi_X8_overlaps.2.1 3 = .ok (.bipush 8, 2) := by decide +kernel
theorem d_X8_overlaps_5 : decode mi_X8_overlaps.2.1 5 = .ok (.if_icmp .ge 55, 3) := by decide +kernel
theorem d_X8_overlaps_8 : decode mi_X8_overlaps.2.1 8 = .ok (.aload_n 0, 1) := by decide +kernel
theorem d_X8_overlaps_9 : decode mi_X8_overlaps.2.1 9 = .ok (.getfield 32, 3) := by decide +kernel
theorem d_X8_overlaps_12 : decode mi_X8_overlaps.2.1 12 = .ok (.bipush 8, 2) := by decide +kernel
theorem d_X8_overlaps_14 : decode mi_X8_overlaps.2.1 14 = .ok (.iload_n 1, 1) := by decide +kernel
theorem d_X8_overlaps_15 : decode mi_X8_overlaps.2.1 15 = .ok (.imul, 1) := by decide +kernel
theorem d_X8_overlaps_16 : decode mi_X8_overlaps.2.1 16 = .ok (.iload_n 3, 1) := by decide +kernel
theorem d_X8_overlaps_17 : decode mi_X8_overlaps.2.1 17 = .ok (.iadd, 1) := by decide +kernel
theorem d_X8_overlaps_18 : decode mi_X8_overlaps.2.1 18 = .ok (.iaload, 1) := by decide +kernel
theorem d_X8_overlaps_19 : decode mi_X8_overlaps.2.1 19 = .ok (.istore 4, 2) := by decide +kernel
theorem d_X8_overlaps_21 : decode mi_X8_overlaps.2.1 21 = .ok (.aload_n 0, 1) := by decide +kernel
theorem d_X8_overlaps_22 : decode mi_X8_overlaps.2.1 22 = .ok (.getfield 32, 3) := by decide +kernel
theorem d_X8_overlaps_25 : decode mi_X8_overlaps.2.1 25 = .ok (.bipush 8, 2) := by decide +kernel
theorem d_X8_overlaps_27 : decode mi_X8_overlaps.2.1 27 = .ok (.iload_n 2, 1) := by decide +kernel
theorem d_X8_overlaps_28 : decode mi_X8_overlaps.2.1 28 = .ok (.imul, 1) := by decide +kernel
theorem d_X8_overlaps_29 : decode mi_X8_overlaps.2.1 29 = .ok (.iload_n 3, 1) := by decide +kernel
theorem d_X8_overlaps_30 : decode mi_X8_overlaps.2.1 30 = .ok (.iadd, 1) := by decide +kernel
theorem d_X8_overlaps_31 : decode mi_X8_overlaps.2.1 31 = .ok (.iaload, 1) := by decide +kernel
theorem d_X8_overlaps_32 : decode mi_X8_overlaps.2.1 32 = .ok (.istore 5, 2) := by decide +kernel
theorem d_X8_overlaps_34 : decode mi_X8_overlaps.2.1 34 = .ok (.aload_n 0, 1) := by decide +kernel
theorem d_X8_overlaps_35 : decode mi_X8_overlaps.2.1 35 = .ok (.getfield 47, 3) := by decide +kernel
theorem d_X8_overlaps_38 : decode mi_X8_overlaps.2.1 38 = .ok (.iload_n 3, 1) := by decide +kernel
theorem d_X8_overlaps_39 : decode mi_X8_overlaps.2.1 39 = .ok (.iload 4, 2) := by decide +kernel
theorem d_X8_overlaps_41 : decode mi_X8_overlaps.2.1 41 = .ok (.iload 5, 2) := by decide +kernel
theorem d_X8_overlaps_43 : decode mi_X8_overlaps.2.1 43 = .ok (.if_icmp .ge 8, 3) := by decide +kernel
theorem d_X8_overlaps_46 : decode mi_X8_overlaps.2.1 46 = .ok (.iload 4, 2) := by decide +kernel
theorem d_X8_overlaps_48 : decode mi_X8_overlaps.2.1 48 = .ok (.goto 5, 3) := by decide +kernel
theorem d_X8_overlaps_51 : decode mi_X8_overlaps.2.1 51 = .ok (.iload 5, 2) := by decide +kernel
theorem d_X8_overlaps_53 : decode mi_X8_overlaps.2.1 53 = .ok (.iastore, 1) := by decide +kernel
theorem d_X8_overlaps_54 : decode mi_X8_overlaps.2.1 54 = .ok (.iinc 3 1, 3) := by decide +kernel
theorem d_X8_overlaps_57 : decode mi_X8_overlaps.2.1 57 = .ok (.goto (-55), 3) := by decide +kernel
theorem d_X8_overlaps_60 : decode mi_X8_overlaps.2.1 60 = .ok (.aload_n 0, 1) := by decide +kernel
theorem d_X8_overlaps_61 : decode mi_X8_overlaps.2.1 61 = .ok (.invokevirtual 174, 3) := by decide +kernel
theorem d_X8_overlaps_64 : decode mi_X8_overlaps.2.1 64 = .ok (.aload_n 0, 1) := by decide +kernel
theorem d_X8_overlaps_65 : decode mi_X8_overlaps.2.1 65 = .ok (.getfield 157, 3) := by decide +kernel
theorem d_X8_overlaps_68 : decode mi_X8_overlaps.2.1 68 = .ok (.iconst 2, 1) := by decide +kernel
theorem d_X8_overlaps_69 : decode mi_X8_overlaps.2.1 69 = .ok (.if_icmp .le 14, 3) := by decide +kernel
theorem d_X8_overlaps_72 : decode mi_X8_overlaps.2.1 72 = .ok (.aload_n 0, 1) := by decide +kernel
theorem d_X8_overlaps_73 : decode mi_X8_overlaps.2.1 73 = .ok (.invokevirtual 220, 3) := by decide +kernel
theorem d_X8_overlaps_76 : decode mi_X8_overlaps.2.1 76 = .ok (.ifCond .le 7, 3) := by decide +kernel
theorem d_X8_overlaps_79 : decode mi_X8_overlaps.2.1 79 = .ok (.iconst 1, 1) := by decide +kernel
theorem d_X8_overlaps_80 : decode mi_X8_overlaps.2.1 80 = .ok (.goto 4, 3) := by decide +kernel
theorem d_X8_overlaps_83 : decode mi_X8_overlaps.2.1 83 = .ok (.iconst 0, 1) := by decide +kernel
theorem d_X8_overlaps_84 : decode mi_X8_overlaps.2.1 84 = .ok (.ireturn, 1) := by decide +kernel
def f_X8_overlaps_60 (σ : SS) : Option (Int32 × SS) := cal (f_X8_findSides  σ) (fun _ s1 => if (s1.1 25 0 17) ≤ (2 : Int32) then (some ((0 : Int32), s1)) else (cal (f_X8_areaNow  s1) (fun x3 s2 => if x3 ≤ 0 then (some ((0 : Int32), s2)) else (some ((1 : Int32), s2)))))
set_option maxRecDepth 20000 in
theorem t_X8_overlaps_60 {d : Nat} {X : MX} {Y : MY} {b : Nat × Nat} {r : Int32} {σ' : SS} {σ : SS} (h : f_X8_overlaps_60 σ = some (r, σ')) : WM (d + 4) X Y b mi_X8_overlaps 60 [some (vR 25 0), none, none, none, none, none] [] σ (some (vI r), σ') := by
  rw [f_X8_overlaps_60] at h
  refine r_aload_n (pc' := 61) d_X8_overlaps_60 rfl rfl rfl ?_
  refine v0_v (mc := mi_X8_findSides) (bc := (0, 0)) (b' := _) (pc' := 64) cw_X8_174 d_X8_overlaps_61 rfl rfl rfl (Nat.zero_add _).symm (Nat.zero_add _).symm rfl h (fun _ _ e => t_X8_findSides e) (fun _ s1 h => ?_)
  refine r_aload_n (pc' := 65) d_X8_overlaps_64 rfl rfl rfl ?_
  refine r_get (v := vI _) (pc' := 68) fl_X8_157 d_X8_overlaps_65 rfl rfl (fun _ => trivial) rfl ?_
  refine r_iconst (pc' := 69) d_X8_overlaps_68 ci_2 rfl ?_
  refine r_icmp_le (pcT := 83) (pc' := 72) d_X8_overlaps_69 rfl rfl h (fun _ h => ?_) (fun _ h => ?_)
  · refine r_iconst (pc' := 84) d_X8_overlaps_83 ci_0 rfl ?_
    exact r_zret d_X8_overlaps_84 rfl (Or.inl rfl) h
  · refine r_aload_n (pc' := 73) d_X8_overlaps_72 rfl rfl rfl ?_
    refine v0_i (mc := mi_X8_areaNow) (bc := (0, 0)) (b' := _) (pc' := 76) cw_X8_220 d_X8_overlaps_73 rfl rfl rfl (Nat.zero_add _).symm (Nat.zero_add _).symm rfl h (fun _ _ e => t_X8_areaNow e) (fun x3 s2 h => ?_)
    refine r_if_le (pcT := 83) (pc' := 79) d_X8_overlaps_76 rfl rfl h (fun _ h => ?_) (fun _ h => ?_)
    · refine r_iconst (pc' := 84) d_X8_overlaps_83 ci_0 rfl ?_
      exact r_zret d_X8_overlaps_84 rfl (Or.inl rfl) h
    · refine r_iconst (pc' := 80) d_X8_overlaps_79 ci_1 rfl ?_
      refine r_goto (pc' := 84) d_X8_overlaps_80 rfl ?_
      exact r_zret d_X8_overlaps_84 rfl (Or.inr rfl) h
def f_X8_overlaps_53 (K2 : Int32 → Int32 → Int32 → SS → Option (Int32 × SS)) (v1 : Int32) (v2 : Int32) (v3 : Int32) (u1 : Int32) (u2 : Int32) (σ : SS) : Option (Int32 × SS) := chk (inr u1 8) (lt_ (up σ 53 0 (ix u1) u2) (fun s1 => lt_ (v3 + (1 : Int32)) (fun x2 => K2 v1 v2 x2 s1)))
set_option maxRecDepth 20000 in
theorem t_X8_overlaps_53 {d : Nat} {X : MX} {Y : MY} {b : Nat × Nat} {r : Int32} {σ' : SS} {K2 : Int32 → Int32 → Int32 → SS → Option (Int32 × SS)} {v1 : Int32} {v2 : Int32} {v3 : Int32} {u1 : Int32} {u2 : Int32} (hK2 : ∀ (v1 : Int32) (v2 : Int32) (v3 : Int32) (σ : SS), K2 v1 v2 v3 σ = some (r, σ') → WM (d + 4) X Y b mi_X8_overlaps 2 [some (vR 25 0), some (vI v1), some (vI v2), some (vI v3), none, none] [] σ (some (vI r), σ')) {σ : SS} (h : f_X8_overlaps_53 K2 v1 v2 v3 u1 u2 σ = some (r, σ')) : WM (d + 4) X Y b mi_X8_overlaps 53 [some (vR 25 0), some (vI v1), some (vI v2), some (vI v3), none, none] [vI u2, vI u1, vR 53 0] σ (some (vI r), σ') := by
  rw [f_X8_overlaps_53] at h
  refine l_iastore (pc' := 54) d_X8_overlaps_53 rfl (fun _ => rfl) (by decide) (by decide) (fun _ => rfl) rfl h (fun s1 h => ?_)
  refine l_iinc (pc' := 57) d_X8_overlaps_54 rfl ci_1 rfl rfl rfl h (fun x2 h => ?_)
  refine r_goto (pc' := 2) d_X8_overlaps_57 rfl ?_
  exact WM.drop [] rfl (hK2 _ _ _ _ h)
def f_X8_overlaps_2 : Nat → Int32 → Int32 → Int32 → SS → Option (Int32 × SS)
  | 0, _, _, _, _ => none
  | n + 1, v1, v2, v3, σ => if (8 : Int32) ≤ v3 then (f_X8_overlaps_60  σ) else (chk (inr (((8 : Int32) * v1) + v3) 480) (lt_ (σ.1 48 0 (ix (((8 : Int32) * v1) + v3))) (fun x1 => chk (inr (((8 : Int32) * v2) + v3) 480) (lt_ (σ.1 48 0 (ix (((8 : Int32) * v2) + v3))) (fun x2 => if x2 ≤ x1 then (f_X8_overlaps_53 (f_X8_overlaps_2 n) v1 v2 v3 v3 x2 σ) else (f_X8_overlaps_53 (f_X8_overlaps_2 n) v1 v2 v3 v3 x1 σ))))))
set_option maxRecDepth 20000 in
theorem t_X8_overlaps_2 {d : Nat} {X : MX} {Y : MY} {b : Nat × Nat} {r : Int32} {σ' : SS} : ∀ (n : Nat) (v1 : Int32) (v2 : Int32) (v3 : Int32) (σ : SS), f_X8_overlaps_2 n v1 v2 v3 σ = some (r, σ') → WM (d + 4) X Y b mi_X8_overlaps 2 [some (vR 25 0), some (vI v1), some (vI v2), some (vI v3), none, none] [] σ (some (vI r), σ') := by
  intro n
  induction n with
  | zero => intro _ _ _ σ h; cases h
  | succ n ih =>
    intro v1 v2 v3 σ h
    rw [f_X8_overlaps_2] at h
    refine r_iload_n (pc' := 3) d_X8_overlaps_2 rfl rfl rfl ?_
    refine r_bipush (pc' := 5) d_X8_overlaps_3 cb_8 rfl ?_
    refine r_icmp_ge (pcT := 60) (pc' := 8) d_X8_overlaps_5 rfl rfl h (fun _ h => ?_) (fun _ h => ?_)
    · exact WM.drop [1, 2, 3] rfl (t_X8_overlaps_60 h)
    · refine r_aload_n (pc' := 9) d_X8_overlaps_8 rfl rfl rfl ?_
      refine r_get (v := vR 48 _) (pc' := 12) fl_X8_32 d_X8_overlaps_9 rfl rfl (fun g => Or.inl ⟨rfl, g.2⟩) rfl ?_
      refine r_bipush (pc' := 14) d_X8_overlaps_12 cb_8 rfl ?_
      refine r_iload_n (pc' := 15) d_X8_overlaps_14 rfl rfl rfl ?_
      refine r_imul (pc' := 16) d_X8_overlaps_15 rfl ?_
      refine r_iload_n (pc' := 17) d_X8_overlaps_16 rfl rfl rfl ?_
      refine r_iadd (pc' := 18) d_X8_overlaps_17 rfl ?_
      refine r_iaload (pc' := 19) d_X8_overlaps_18 rfl (fun _ => rfl) rfl h (fun h => ?_)
      refine l_istore (pc' := 21) d_X8_overlaps_19 rfl rfl rfl h (fun x1 h => ?_)
      refine r_aload_n (pc' := 22) d_X8_overlaps_21 rfl rfl rfl ?_
      refine r_get (v := vR 48 _) (pc' := 25) fl_X8_32 d_X8_overlaps_22 rfl rfl (fun g => Or.inl ⟨rfl, g.2⟩) rfl ?_
      refine r_bipush (pc' := 27) d_X8_overlaps_25 cb_8 rfl ?_
      refine r_iload_n (pc' := 28) d_X8_overlaps_27 rfl rfl rfl ?_
      refine r_imul (pc' := 29) d_X8_overlaps_28 rfl ?_
      refine r_iload_n (pc' := 30) d_X8_overlaps_29 rfl rfl rfl ?_
      refine r_iadd (pc' := 31) d_X8_overlaps_30 rfl ?_
      refine r_iaload (pc' := 32) d_X8_overlaps_31 rfl (fun _ => rfl) rfl h (fun h => ?_)
      refine l_istore (pc' := 34) d_X8_overlaps_32 rfl rfl rfl h (fun x2 h => ?_)
      refine r_aload_n (pc' := 35) d_X8_overlaps_34 rfl rfl rfl ?_
      refine r_get (v := vR 53 _) (pc' := 38) fl_X8_47 d_X8_overlaps_35 rfl rfl (fun g => Or.inl ⟨rfl, g.2⟩) rfl ?_
      refine r_iload_n (pc' := 39) d_X8_overlaps_38 rfl rfl rfl ?_
      refine r_iload (pc' := 41) d_X8_overlaps_39 rfl rfl ?_
      refine r_iload (pc' := 43) d_X8_overlaps_41 rfl rfl ?_
      refine r_icmp_ge (pcT := 51) (pc' := 46) d_X8_overlaps_43 rfl rfl h (fun _ h => ?_) (fun _ h => ?_)
      · refine r_iload (pc' := 53) d_X8_overlaps_51 rfl rfl ?_
        exact WM.drop [4, 5] rfl (t_X8_overlaps_53 ih h)
      · refine r_iload (pc' := 48) d_X8_overlaps_46 rfl rfl ?_
        refine r_goto (pc' := 53) d_X8_overlaps_48 rfl ?_
        exact WM.drop [4, 5] rfl (t_X8_overlaps_53 ih h)
def f_X8_overlaps (v1 : Int32) (v2 : Int32) (σ : SS) : Option (Int32 × SS) := f_X8_overlaps_2 FU v1 v2 (0 : Int32) σ
set_option maxRecDepth 20000 in
theorem t_X8_overlaps {d : Nat} {b : Nat × Nat} {v1 : Int32} {v2 : Int32} {σ : SS} {r : Int32} {σ' : SS} (h : f_X8_overlaps v1 v2 σ = some (r, σ')) : MM (d + 4) b mi_X8_overlaps [vR 25 0, vI v1, vI v2] σ (some (vI r), σ') := by
  refine MM.of (lv := [some (vR 25 0), some (vI v1), some (vI v2), none, none, none]) (by decide +kernel) rfl rfl (fun X Y => ?_)
  rw [f_X8_overlaps] at h
  refine r_iconst (pc' := 1) d_X8_overlaps_0 ci_0 rfl ?_
  refine r_istore_n (pc' := 2) d_X8_overlaps_1 rfl rfl rfl rfl ?_
  exact WM.drop [] rfl (t_X8_overlaps_2 _ _ _ _ _ h)
/-! OctagonYardModel.shared(II)I -/
def mi_X8_shared : MI := (yX8_shared, cX8_shared, 12, (some .int))
theorem d_X8_shared_0 : decode mi_X8_shared.2.1 0 = .ok (.aload_n 0, 1) := by decide +kernel
theorem d_X8_shared_1 : decode mi_X8_shared.2.1 1 = .ok (.getfield 80, 3) := by decide +kernel
theorem d_X8_shared_4 : decode mi_X8_shared.2.1 4 = .ok (.iload_n 1, 1) := by decide +kernel
theorem d_X8_shared_5 : decode mi_X8_shared.2.1 5 = .ok (.iaload, 1) := by decide +kernel
theorem d_X8_shared_6 : decode mi_X8_shared.2.1 6 = .ok (.istore_n 3, 1) := by decide +kernel
theorem d_X8_shared_7 : decode mi_X8_shared.2.1 7 = .ok (.iload_n 3, 1) := by decide +kernel
theorem d_X8_shared_8 : decode mi_X8_shared.2.1 8 = .ok (.iconst 4, 1) := by decide +kernel
theorem d_X8_shared_9 : decode mi_X8_shared.2.1 9 = .ok (.irem, 1) := by decide +kernel
theorem d_X8_shared_10 : decode mi_X8_shared.2.1 10 = .ok (.ifCond .ne 7, 3) := by decide +kernel
theorem d_X8_shared_13 : decode mi_X8_shared.2.1 13 = .ok (.iconst 1, 1) := by decide +kernel
theorem d_X8_shared_14 : decode mi_X8_shared.2.1 14 = .ok (.goto 4, 3) := by decide +kernel
theorem d_X8_shared_17 : decode mi_X8_shared.2.1 17 = .ok (.iconst 0, 1) := by decide +kernel
theorem d_X8_shared_18 : decode mi_X8_shared.2.1 18 = .ok (.istore 4, 2) := by decide +kernel
theorem d_X8_shared_20 : decode mi_X8_shared.2.1 20 = .ok (.aload_n 0, 1) := by decide +kernel
theorem d_X8_shared_21 : decode mi_X8_shared.2.1 21 = .ok (.getfield 7, 3) := by decide +kernel
theorem d_X8_shared_24 : decode mi_X8_shared.2.1 24 = .ok (.iload_n 3, 1) := by decide +kernel
theorem d_X8_shared_25 : decode mi_X8_shared.2.1 25 = .ok (.iaload, 1) := by decide +kernel
theorem d_X8_shared_26 : decode mi_X8_shared.2.1 26 = .ok (.aload_n 0, 1) := by decide +kernel
theorem d_X8_shared_27 : decode mi_X8_shared.2.1 27 = .ok (.getfield 83, 3) := by decide +kernel
theorem d_X8_shared_30 : decode mi_X8_shared.2.1 30 = .ok (.iload_n 1, 1) := by decide +kernel
theorem d_X8_shared_31 : decode mi_X8_shared.2.1 31 = .ok (.iaload, 1) := by decide +kernel
theorem d_X8_shared_32 : decode mi_X8_shared.2.1 32 = .ok (.imul, 1) := by decide +kernel
theorem d_X8_shared_33 : decode mi_X8_shared.2.1 33 = .ok (.aload_n 0, 1) := by decide +kernel
theorem d_X8_shared_34 : decode mi_X8_shared.2.1 34 = .ok (.getfield 13, 3) := by decide +kernel
theorem d_X8_shared_37 : decode mi_X8_shared.2.1 37 = .ok (.iload_n 3, 1) := by decide +kernel
theorem d_X8_shared_38 : decode mi_X8_shared.2.1 38 = .ok (.iaload, 1) := by decide +kernel
theorem d_X8_shared_39 : decode mi_X8_shared.2.1 39 = .ok (.aload_n 0, 1) := by decide +kernel
theorem d_X8_shared_40 : decode mi_X8_shared.2.1 40 = .ok (.getfield 86, 3) := by decide +kernel
theorem d_X8_shared_43 : decode mi_X8_shared.2.1 43 = .ok (.iload_n 1, 1) := by decide +kernel
theorem d_X8_shared_44 : decode mi_X8_shared.2.1 44 = .ok (.iaload, 1) := by decide +kernel
theorem d_X8_shared_45 : decode mi_X8_shared.2.1 45 = .ok (.imul, 1) := by decide +kernel
theorem d_X8_shared_46 : decode mi_X8_shared.2.1 46 = .ok (.iadd, 1) := by decide +kernel
theorem d_X8_shared_47 : decode mi_X8_shared.2.1 47 = .ok (.istore 5, 2) := by decide +kernel
theorem d_X8_shared_49 : decode mi_X8_shared.2.1 49 = .ok (.aload_n 0, 1) := by decide +kernel
theorem d_X8_shared_50 : decode mi_X8_shared.2.1 50 = .ok (.getfield 56, 3) := by decide +kernel
theorem d_X8_shared_53 : decode mi_X8_shared.2.1 53 = .ok (.iload_n 2, 1) := by decide +kernel
theorem d_X8_shared_54 : decode mi_X8_shared.2.1 54 = .ok (.iaload, 1) := by decide +kernel
theorem d_X8_shared_55 : decode mi_X8_shared.2.1 55 = .ok (.iconst 4, 1) := by decide +kernel
theorem d_X8_shared_56 : decode mi_X8_shared.2.1 56 = .ok (.irem, 1) := by decide +kernel
theorem d_X8_shared_57 : decode mi_X8_shared.2.1 57 = .ok (.iload_n 3, 1) := by decide +kernel
theorem d_X8_shared_58 : decode mi_X8_shared.2.1 58 = .ok (.iconst 4, 1) := by decide +kernel
theorem d_X8_shared_59 : decode mi_X8_shared.2.1 59 = .ok (.irem, 1) := by decide +kernel
theorem d_X8_shared_60 : decode mi_X8_shared.2.1 60 = .ok (.if_icmp .ne 35, 3) := by decide +kernel
theorem d_X8_shared_63 : decode mi_X8_shared.2.1 63 = .ok (.aload_n 0, 1) := by decide +kernel
theorem d_X8_shared_64 : decode mi_X8_shared.2.1 64 = .ok (.getfield 7, 3) := by decide +kernel
theorem d_X8_shared_67 : decode mi_X8_shared.2.1 67 = .ok (.iload_n 3, 1) := by decide +kernel
theorem d_X8_shared_68 : decode mi_X8_shared.2.1 68 = .ok (.iaload, 1) := by decide +kernel
theorem d_X8_shared_69 : decode mi_X8_shared.2.1 69 = .ok (.aload_n 0, 1) := by decide +kernel
theorem d_X8_shared_70 : decode mi_X8_shared.2.1 70 = .ok (.getfield 59, 3) := by decide +kernel
theorem d_X8_shared_73 : decode mi_X8_shared.2.1 73 = .ok (.iload_n 2, 1) := by decide +kernel
theorem d_X8_shared_74 : decode mi_X8_shared.2.1 74 = .ok (.iaload, 1) := by decide +kernel
theorem d_X8_shared_75 : decode mi_X8_shared.2.1 75 = .ok (.imul, 1) := by decide +kernel
theorem d_X8_shared_76 : decode mi_X8_shared.2.1 76 = .ok (.aload_n 0, 1) := by decide +kernel
theorem d_X8_shared_77 : decode mi_X8_shared.2.1 77 = .ok (.getfield 13, 3) := by decide +kernel
theorem d_X8_shared_80 : decode mi_X8_shared.2.1 80 = .ok (.iload_n 3, 1) := by decide +kernel
theorem d_X8_shared_81 : decode mi_X8_shared.2.1 81 = .ok (.iaload, 1) := by decide +kernel
theorem d_X8_shared_82 : decode mi_X8_shared.2.1 82 = .ok (.aload_n 0, 1) := by decide +kernel
theorem d_X8_shared_83 : decode mi_X8_shared.2.1 83 = .ok (.getfield 62, 3) := by decide +kernel
theorem d_X8_shared_86 : decode mi_X8_shared.2.1 86 = .ok (.iload_n 2, 1) := by decide +kernel
theorem d_X8_shared_87 : decode mi_X8_shared.2.1 87 = .ok (.iaload, 1) := by decide +kernel
theorem d_X8_shared_88 : decode mi_X8_shared.2.1 88 = .ok (.imul, 1) := by decide +kernel
theorem d_X8_shared_89 : decode mi_X8_shared.2.1 89 = .ok (.iadd, 1) := by decide +kernel
theorem d_X8_shared_90 : decode mi_X8_shared.2.1 90 = .ok (.iload 5, 2) := by decide +kernel
theorem d_X8_shared_92 : decode mi_X8_shared.2.1 92 = .ok (.if_icmp .eq 5, 3) := by decide +kernel
theorem d_X8_shared_95 : decode mi_X8_shared.2.1 95 = .ok (.iconst 0, 1) := by decide +kernel
theorem d_X8_shared_96 : decode mi_X8_shared.2.1 96 = .ok (.ireturn, 1) := by decide +kernel
theorem d_X8_shared_97 : decode mi_X8_shared.2.1 97 = .ok (.iload 4, 2) := by decide +kernel
theorem d_X8_shared_99 : decode mi_X8_shared.2.1 99 = .ok (.ifCond .eq 12, 3) := by decide +kernel
theorem d_X8_shared_102 : decode mi_X8_shared.2.1 102 = .ok (.aload_n 0, 1) := by decide +kernel
theorem d_X8_shared_103 : decode mi_X8_shared.2.1 103 = .ok (.getfield 86, 3) := by decide +kernel
theorem d_X8_shared_106 : decode mi_X8_shared.2.1 106 = .ok (.iload_n 1, 1) := by decide +kernel
theorem d_X8_shared_107 : decode mi_X8_shared.2.1 107 = .ok (.iaload, 1) := by decide +kernel
theorem d_X8_shared_108 : decode mi_X8_shared.2.1 108 = .ok (.goto 9, 3) := by decide +kernel
theorem d_X8_shared_111 : decode mi_X8_shared.2.1 111 = .ok (.aload_n 0, 1) := by decide +kernel
theorem d_X8_shared_112 : decode mi_X8_shared.2.1 112 = .ok (.getfield 83, 3) := by decide +kernel
theorem d_X8_shared_115 : decode mi_X8_shared.2.1 115 = .ok (.iload_n 1, 1) := by decide +kernel
theorem d_X8_shared_116 : decode mi_X8_shared.2.1 116 = .ok (.iaload, 1) := by decide +kernel
theorem d_X8_shared_117 : decode mi_X8_shared.2.1 117 = .ok (.istore 6, 2) := by decide +kernel
theorem d_X8_shared_119 : decode mi_X8_shared.2.1 119 = .ok (.iload 4, 2) := by decide +kernel
theorem d_X8_shared_121 : decode mi_X8_shared.2.1 121 = .ok (.ifCond .eq 12, 3) := by decide +kernel
theorem d_X8_shared_124 : decode mi_X8_shared.2.1 124 = .ok (.aload_n 0, 1) := by decide +kernel
theorem d_X8_shared_125 : decode mi_X8_shared.2.1 125 = .ok (.getfield 92, 3) := by decide +kernel
theorem d_X8_shared_128 : decode mi_X8_shared.2.1 128 = .ok (.iload_n 1, 1) := by decide +kernel
theorem d_X8_shared_129 : decode mi_X8_shared.2.1 129 = .ok (.iaload, 1) := by decide +kernel
theorem d_X8_shared_130 : decode mi_X8_shared.2.1 130 = .ok (.goto 9, 3) := by decide +kernel
theorem d_X8_shared_133 : decode mi_X8_shared.2.1 133 = .ok (.aload_n 0, 1) := by decide +kernel
theorem d_X8_shared_134 : decode mi_X8_shared.2.1 134 = .ok (.getfield 89, 3) := by decide +kernel
theorem d_X8_shared_137 : decode mi_X8_shared.2.1 137 = .ok (.iload_n 1, 1) := by decide +kernel
theorem d_X8_shared_138 : decode mi_X8_shared.2.1 138 = .ok (.iaload, 1) := by decide +kernel
theorem d_X8_shared_139 : decode mi_X8_shared.2.1 139 = .ok (.istore 7, 2) := by decide +kernel
theorem d_X8_shared_141 : decode mi_X8_shared.2.1 141 = .ok (.iload 4, 2) := by decide +kernel
theorem d_X8_shared_143 : decode mi_X8_shared.2.1 143 = .ok (.ifCond .eq 12, 3) := by decide +kernel
theorem d_X8_shared_146 : decode mi_X8_shared.2.1 146 = .ok (.aload_n 0, 1) := by decide +kernel
theorem d_X8_shared_147 : decode mi_X8_shared.2.1 147 = .ok (.getfield 62, 3) := by decide +kernel
theorem d_X8_shared_150 : decode mi_X8_shared.2.1 150 = .ok (.iload_n 2, 1) := by decide +kernel
theorem d_X8_shared_151 : decode mi_X8_shared.2.1 151 = .ok (.iaload, 1) := by decide +kernel
theorem d_X8_shared_152 : decode mi_X8_shared.2.1 152 = .ok (.goto 9, 3) := by decide +kernel
theorem d_X8_shared_155 : decode mi_X8_shared.2.1 155 = .ok (.aload_n 0, 1) := by decide +kernel
theorem d_X8_shared_156 : decode mi_X8_shared.2.1 156 = .ok (.getfield 59, 3) := by decide +kernel
theorem d_X8_shared_159 : decode mi_X8_shared.2.1 159 = .ok (.iload_n 2, 1) := by decide +kernel
theorem d_X8_shared_160 : decode mi_X8_shared.2.1 160 = .ok (.iaload, 1) := by decide +kernel
theorem d_X8_shared_161 : decode mi_X8_shared.2.1 161 = .ok (.istore 8, 2) := by decide +kernel
theorem d_X8_shared_163 : decode mi_X8_shared.2.1 163 = .ok (.iload 4, 2) := by decide +kernel
theorem d_X8_shared_165 : decode mi_X8_shared.2.1 165 = .ok (.ifCond .eq 12, 3) := by decide +kernel
theorem d_X8_shared_168 : decode mi_X8_shared.2.1 168 = .ok (.aload_n 0, 1) := by decide +kernel
theorem d_X8_shared_169 : decode mi_X8_shared.2.1 169 = .ok (.getfield 68, 3) := by decide +kernel
theorem d_X8_shared_172 : decode mi_X8_shared.2.1 172 = .ok (.iload_n 2, 1) := by decide +kernel
theorem d_X8_shared_173 : decode mi_X8_shared.2.1 173 = .ok (.iaload, 1) := by decide +kernel
theorem d_X8_shared_174 : decode mi_X8_shared.2.1 174 = .ok (.goto 9, 3) := by decide +kernel
theorem d_X8_shared_177 : decode mi_X8_shared.2.1 177 = .ok (.aload_n 0, 1) := by decide +kernel
theorem d_X8_shared_178 : decode mi_X8_shared.2.1 178 = .ok (.getfield 65, 3) := by decide +kernel
theorem d_X8_shared_181 : decode mi_X8_shared.2.1 181 = .ok (.iload_n 2, 1) := by decide +kernel
theorem d_X8_shared_182 : decode mi_X8_shared.2.1 182 = .ok (.iaload, 1) := by decide +kernel
theorem d_X8_shared_183 : decode mi_X8_shared.2.1 183 = .ok (.istore 9, 2) := by decide +kernel
theorem d_X8_shared_185 : decode mi_X8_shared.2.1 185 = .ok (.iload 6, 2) := by decide +kernel
theorem d_X8_shared_187 : decode mi_X8_shared.2.1 187 = .ok (.iload 7, 2) := by decide +kernel
theorem d_X8_shared_189 : decode mi_X8_shared.2.1 189 = .ok (.if_icmp .ge 8, 3) := by decide +kernel
theorem d_X8_shared_192 : decode mi_X8_shared.2.1 192 = .ok (.iload 6, 2) := by decide +kernel
theorem d_X8_shared_194 : decode mi_X8_shared.2.1 194 = .ok (.goto 5, 3) := by decide +kernel
theorem d_X8_shared_197 : decode mi_X8_shared.2.1 197 = .ok (.iload 7, 2) := by decide +kernel
theorem d_X8_shared_199 : decode mi_X8_shared.2.1 199 = .ok (.iload 8, 2) := by decide +kernel
theorem d_X8_shared_201 : decode mi_X8_shared.2.1 201 = .ok (.iload 9, 2) := by decide +kernel
theorem d_X8_shared_203 : decode mi_X8_shared.2.1 203 = .ok (.if_icmp .ge 8, 3) := by decide +kernel
theorem d_X8_shared_206 : decode mi_X8_shared.2.1 206 = .ok (.iload 8, 2) := by decide +kernel
theorem d_X8_shared_208 : decode mi_X8_shared.2.1 208 = .ok (.goto 5, 3) := by decide +kernel
theorem d_X8_shared_211 : decode mi_X8_shared.2.1 211 = .ok (.iload 9, 2) := by decide +kernel
theorem d_X8_shared_213 : decode mi_X8_shared.2.1 213 = .ok (.if_icmp .le 20, 3) := by decide +kernel
theorem d_X8_shared_216 : decode mi_X8_shared.2.1 216 = .ok (.iload 6, 2) := by decide +kernel
theorem d_X8_shared_218 : decode mi_X8_shared.2.1 218 = .ok (.iload 7, 2) := by decide +kernel
theorem d_X8_shared_220 : decode mi_X8_shared.2.1 220 = .ok (.if_icmp .ge 8, 3) := by decide +kernel
theorem d_X8_shared_223 : decode mi_X8_shared.2.1 223 = .ok (.iload 6, 2) := by decide +kernel
theorem d_X8_shared_225 : decode mi_X8_shared.2.1 225 = .ok (.goto 22, 3) := by decide +kernel
theorem d_X8_shared_228 : decode mi_X8_shared.2.1 228 = .ok (.iload 7, 2) := by decide +kernel
theorem d_X8_shared_230 : decode mi_X8_shared.2.1 230 = .ok (.goto 17, 3) := by decide +kernel
theorem d_X8_shared_233 : decode mi_X8_shared.2.1 233 = .ok (.iload 8, 2) := by decide +kernel
theorem d_X8_shared_235 : decode mi_X8_shared.2.1 235 = .ok (.iload 9, 2) := by decide +kernel
theorem d_X8_shared_237 : decode mi_X8_shared.2.1 237 = .ok (.if_icmp .ge 8, 3) := by decide +kernel
theorem d_X8_shared_240 : decode mi_X8_shared.2.1 240 = .ok (.iload 8, 2) := by decide +kernel
theorem d_X8_shared_242 : decode mi_X8_shared.2.1 242 = .ok (.goto 5, 3) := by decide +kernel
theorem d_X8_shared_245 : decode mi_X8_shared.2.1 245 = .ok (.iload 9, 2) := by decide +kernel
theorem d_X8_shared_247 : decode mi_X8_shared.2.1 247 = .ok (.istore 10, 2) := by decide +kernel
theorem d_X8_shared_249 : decode mi_X8_shared.2.1 249 = .ok (.iload 6, 2) := by decide +kernel
theorem d_X8_shared_251 : decode mi_X8_shared.2.1 251 = .ok (.iload 7, 2) := by decide +kernel
theorem d_X8_shared_253 : decode mi_X8_shared.2.1 253 = .ok (.if_icmp .le 8, 3) := by decide +kernel
theorem d_X8_shared_256 : decode mi_X8_shared.2.1 256 = .ok (.iload 6, 2) := by decide +kernel
theorem d_X8_shared_258 : decode mi_X8_shared.2.1 258 = .ok (.goto 5, 3) := by decide +kernel
theorem d_X8_shared_261 : decode mi_X8_shared.2.1 261 = .ok (.iload 7, 2) := by decide +kernel
theorem d_X8_shared_263 : decode mi_X8_shared.2.1 263 = .ok (.iload 8, 2) := by decide +kernel
theorem d_X8_shared_265 : decode mi_X8_shared.2.1 265 = .ok (.iload 9, 2) := by decide +kernel
theorem d_X8_shared_267 : decode mi_X8_shared.2.1 267 = .ok (.if_icmp .le 8, 3) := by decide +kernel
theorem d_X8_shared_270 : decode mi_X8_shared.2.1 270 = .ok (.iload 8, 2) := by decide +kernel
theorem d_X8_shared_272 : decode mi_X8_shared.2.1 272 = .ok (.goto 5, 3) := by decide +kernel
theorem d_X8_shared_275 : decode mi_X8_shared.2.1 275 = .ok (.iload 9, 2) := by decide +kernel
theorem d_X8_shared_277 : decode mi_X8_shared.2.1 277 = .ok (.if_icmp .ge 20, 3) := by decide +kernel
theorem d_X8_shared_280 : decode mi_X8_shared.2.1 280 = .ok (.iload 6, 2) := by decide +kernel
theorem d_X8_shared_282 : decode mi_X8_shared.2.1 282 = .ok (.iload 7, 2) := by decide +kernel
theorem d_X8_shared_284 : decode mi_X8_shared.2.1 284 = .ok (.if_icmp .le 8, 3) := by decide +kernel
theorem d_X8_shared_287 : decode mi_X8_shared.2.1 287 = .ok (.iload 6, 2) := by decide +kernel
theorem d_X8_shared_289 : decode mi_X8_shared.2.1 289 = .ok (.goto 22, 3) := by decide +kernel
theorem d_X8_shared_292 : decode mi_X8_shared.2.1 292 = .ok (.iload 7, 2) := by decide +kernel
theorem d_X8_shared_294 : decode mi_X8_shared.2.1 294 = .ok (.goto 17, 3) := by decide +kernel
theorem d_X8_shared_297 : decode mi_X8_shared.2.1 297 = .ok (.iload 8, 2) := by decide +kernel
theorem d_X8_shared_299 : decode mi_X8_shared.2.1 299 = .ok (.iload 9, 2) := by decide +kernel
theorem d_X8_shared_301 : decode mi_X8_shared.2.1 301 = .ok (.if_icmp .le 8, 3) := by decide +kernel
theorem d_X8_shared_304 : decode mi_X8_shared.2.1 304 = .ok (.iload 8, 2) := by decide +kernel
theorem d_X8_shared_306 : decode mi_X8_shared.2.1 306 = .ok (.goto 5, 3) := by decide +kernel
theorem d_X8_shared_309 : decode mi_X8_shared.2.1 309 = .ok (.iload 9, 2) := by decide +kernel
theorem d_X8_shared_311 : decode mi_X8_shared.2.1 311 = .ok (.istore 11, 2) := by decide +kernel
theorem d_X8_shared_313 : decode mi_X8_shared.2.1 313 = .ok (.iload 11, 2) := by decide +kernel
theorem d_X8_shared_315 : decode mi_X8_shared.2.1 315 = .ok (.iload 10, 2) := by decide +kernel
theorem d_X8_shared_317 : decode mi_X8_shared.2.1 317 = .ok (.if_icmp .le 11, 3) := by decide +kernel
theorem d_X8_shared_320 : decode mi_X8_shared.2.1 320 = .ok (.iload 11, 2) := by decide +kernel
theorem d_X8_shared_322 : decode mi_X8_shared.2.1 322 = .ok (.iload 10, 2) := by decide +kernel
theorem d_X8_shared_324 : decode mi_X8_shared.2.1 324 = .ok (.isub, 1) := by decide +kernel
theorem d_X8_shared_325 : decode mi_X8_shared.2.1 325 = .ok (.goto 4, 3) := by decide +kernel
theorem d_X8_shared_328 : decode mi_X8_shared.2.1 328 = .ok (.iconst 0, 1) := by decide +kernel
theorem d_X8_shared_329 : decode mi_X8_shared.2.1 329 = .ok (.ireturn, 1) := by decide +kernel
theorem fl_X8_80 : FL RX8 80 8 49 30 := ⟨RX8, TX8, rfl, by decide, rfl, by decide +kernel, in_8⟩
theorem fl_X8_83 : FL RX8 83 8 49 31 := ⟨RX8, TX8, rfl, by decide, rfl, by decide +kernel, in_8⟩
theorem fl_X8_86 : FL RX8 86 8 49 32 := ⟨RX8, TX8, rfl, by decide, rfl, by decide +kernel, in_8⟩
theorem fl_X8_89 : FL RX8 89 8 49 33 := ⟨RX8, TX8, rfl, by decide, rfl, by decide +kernel, in_8⟩
theorem fl_X8_92 : FL RX8 92 8 49 34 := ⟨RX8, TX8, rfl, by decide, rfl, by decide +kernel, in_8⟩
def f_X8_shared_311 (v10 : Int32) (u0 : Int32) (σ : SS) : Option (Int32 × SS) := if u0 ≤ v10 then (some ((0 : Int32), σ)) else (some ((u0 - v10), σ))
set_option maxRecDepth 20000 in
theorem t_X8_shared_311 {d : Nat} {X : MX} {Y : MY} {b : Nat × Nat} {r : Int32} {σ' : SS} {v10 : Int32} {u0 : Int32} {σ : SS} (h : f_X8_shared_311 v10 u0 σ = some (r, σ')) : WM d X Y b mi_X8_shared 311 [none, none, none, none, none, none, none, none, none, none, some (vI v10), none] [vI u0] σ (some (vI r), σ') := by
  rw [f_X8_shared_311] at h
  refine r_istore (pc' := 313) d_X8_shared_311 rfl rfl rfl ?_
  refine r_iload (pc' := 315) d_X8_shared_313 rfl rfl ?_
  refine r_iload (pc' := 317) d_X8_shared_315 rfl rfl ?_
  refine r_icmp_le (pcT := 328) (pc' := 320) d_X8_shared_317 rfl rfl h (fun _ h => ?_) (fun _ h => ?_)
  · refine r_iconst (pc' := 329) d_X8_shared_328 ci_0 rfl ?_
    exact r_iret d_X8_shared_329 rfl h
  · refine r_iload (pc' := 322) d_X8_shared_320 rfl rfl ?_
    refine r_iload (pc' := 324) d_X8_shared_322 rfl rfl ?_
    refine r_isub (pc' := 325) d_X8_shared_324 rfl ?_
    refine r_goto (pc' := 329) d_X8_shared_325 rfl ?_
    exact r_iret d_X8_shared_329 rfl h
def f_X8_shared_277 (v6 : Int32) (v7 : Int32) (v8 : Int32) (v9 : Int32) (v10 : Int32) (u0 : Int32) (u1 : Int32) (σ : SS) : Option (Int32 × SS) := if u1 ≤ u0 then (if v8 ≤ v9 then (f_X8_shared_311 v10 v9 σ) else (f_X8_shared_311 v10 v8 σ)) else (if v6 ≤ v7 then (f_X8_shared_311 v10 v7 σ) else (f_X8_shared_311 v10 v6 σ))
set_option maxRecDepth 20000 in
theorem t_X8_shared_277 {d : Nat} {X : MX} {Y : MY} {b : Nat × Nat} {r : Int32} {σ' : SS} {v6 : Int32} {v7 : Int32} {v8 : Int32} {v9 : Int32} {v10 : Int32} {u0 : Int32} {u1 : Int32} {σ : SS} (h : f_X8_shared_277 v6 v7 v8 v9 v10 u0 u1 σ = some (r, σ')) : WM d X Y b mi_X8_shared 277 [none, none, none, none, none, none, some (vI v6), some (vI v7), some (vI v8), some (vI v9), some (vI v10), none] [vI u1, vI u0] σ (some (vI r), σ') := by
  rw [f_X8_shared_277] at h
  refine r_icmp_ge (pcT := 297) (pc' := 280) d_X8_shared_277 rfl rfl h (fun _ h => ?_) (fun _ h => ?_)
  · refine r_iload (pc' := 299) d_X8_shared_297 rfl rfl ?_
    refine r_iload (pc' := 301) d_X8_shared_299 rfl rfl ?_
    refine r_icmp_le (pcT := 309) (pc' := 304) d_X8_shared_301 rfl rfl h (fun _ h => ?_) (fun _ h => ?_)
    · refine r_iload (pc' := 311) d_X8_shared_309 rfl rfl ?_
      exact WM.drop [6, 7, 8, 9] rfl (t_X8_shared_311 h)
    · refine r_iload (pc' := 306) d_X8_shared_304 rfl rfl ?_
      refine r_goto (pc' := 311) d_X8_shared_306 rfl ?_
      exact WM.drop [6, 7, 8, 9] rfl (t_X8_shared_311 h)
  · refine r_iload (pc' := 282) d_X8_shared_280 rfl rfl ?_
    refine r_iload (pc' := 284) d_X8_shared_282 rfl rfl ?_
    refine r_icmp_le (pcT := 292) (pc' := 287) d_X8_shared_284 rfl rfl h (fun _ h => ?_) (fun _ h => ?_)
    · refine r_iload (pc' := 294) d_X8_shared_292 rfl rfl ?_
      refine r_goto (pc' := 311) d_X8_shared_294 rfl ?_
      exact WM.drop [6, 7, 8, 9] rfl (t_X8_shared_311 h)
    · refine r_iload (pc' := 289) d_X8_shared_287 rfl rfl ?_
      refine r_goto (pc' := 311) d_X8_shared_289 rfl ?_
      exact WM.drop [6, 7, 8, 9] rfl (t_X8_shared_311 h)
def f_X8_shared_263 (v6 : Int32) (v7 : Int32) (v8 : Int32) (v9 : Int32) (v10 : Int32) (u0 : Int32) (σ : SS) : Option (Int32 × SS) := if v8 ≤ v9 then (f_X8_shared_277 v6 v7 v8 v9 v10 u0 v9 σ) else (f_X8_shared_277 v6 v7 v8 v9 v10 u0 v8 σ)
set_option maxRecDepth 20000 in
theorem t_X8_shared_263 {d : Nat} {X : MX} {Y : MY} {b : Nat × Nat} {r : Int32} {σ' : SS} {v6 : Int32} {v7 : Int32} {v8 : Int32} {v9 : Int32} {v10 : Int32} {u0 : Int32} {σ : SS} (h : f_X8_shared_263 v6 v7 v8 v9 v10 u0 σ = some (r, σ')) : WM d X Y b mi_X8_shared 263 [none, none, none, none, none, none, some (vI v6), some (vI v7), some (vI v8), some (vI v9), some (vI v10), none] [vI u0] σ (some (vI r), σ') := by
  rw [f_X8_shared_263] at h
  refine r_iload (pc' := 265) d_X8_shared_263 rfl rfl ?_
  refine r_iload (pc' := 267) d_X8_shared_265 rfl rfl ?_
  refine r_icmp_le (pcT := 275) (pc' := 270) d_X8_shared_267 rfl rfl h (fun _ h => ?_) (fun _ h => ?_)
  · refine r_iload (pc' := 277) d_X8_shared_275 rfl rfl ?_
    exact WM.drop [] rfl (t_X8_shared_277 h)
  · refine r_iload (pc' := 272) d_X8_shared_270 rfl rfl ?_
    refine r_goto (pc' := 277) d_X8_shared_272 rfl ?_
    exact WM.drop [] rfl (t_X8_shared_277 h)
def f_X8_shared_247 (v6 : Int32) (v7 : Int32) (v8 : Int32) (v9 : Int32) (u0 : Int32) (σ : SS) : Option (Int32 × SS) := if v6 ≤ v7 then (f_X8_shared_263 v6 v7 v8 v9 u0 v7 σ) else (f_X8_shared_263 v6 v7 v8 v9 u0 v6 σ)
set_option maxRecDepth 20000 in
theorem t_X8_shared_247 {d : Nat} {X : MX} {Y : MY} {b : Nat × Nat} {r : Int32} {σ' : SS} {v6 : Int32} {v7 : Int32} {v8 : Int32} {v9 : Int32} {u0 : Int32} {σ : SS} (h : f_X8_shared_247 v6 v7 v8 v9 u0 σ = some (r, σ')) : WM d X Y b mi_X8_shared 247 [none, none, none, none, none, none, some (vI v6), some (vI v7), some (vI v8), some (vI v9), none, none] [vI u0] σ (some (vI r), σ') := by
  rw [f_X8_shared_247] at h
  refine r_istore (pc' := 249) d_X8_shared_247 rfl rfl rfl ?_
  refine r_iload (pc' := 251) d_X8_shared_249 rfl rfl ?_
  refine r_iload (pc' := 253) d_X8_shared_251 rfl rfl ?_
  refine r_icmp_le (pcT := 261) (pc' := 256) d_X8_shared_253 rfl rfl h (fun _ h => ?_) (fun _ h => ?_)
  · refine r_iload (pc' := 263) d_X8_shared_261 rfl rfl ?_
    exact WM.drop [] rfl (t_X8_shared_263 h)
  · refine r_iload (pc' := 258) d_X8_shared_256 rfl rfl ?_
    refine r_goto (pc' := 263) d_X8_shared_258 rfl ?_
    exact WM.drop [] rfl (t_X8_shared_263 h)
def f_X8_shared_213 (v6 : Int32) (v7 : Int32) (v8 : Int32) (v9 : Int32) (u0 : Int32) (u1 : Int32) (σ : SS) : Option (Int32 × SS) := if u0 ≤ u1 then (if v9 ≤ v8 then (f_X8_shared_247 v6 v7 v8 v9 v9 σ) else (f_X8_shared_247 v6 v7 v8 v9 v8 σ)) else (if v7 ≤ v6 then (f_X8_shared_247 v6 v7 v8 v9 v7 σ) else (f_X8_shared_247 v6 v7 v8 v9 v6 σ))
set_option maxRecDepth 20000 in
theorem t_X8_shared_213 {d : Nat} {X : MX} {Y : MY} {b : Nat × Nat} {r : Int32} {σ' : SS} {v6 : Int32} {v7 : Int32} {v8 : Int32} {v9 : Int32} {u0 : Int32} {u1 : Int32} {σ : SS} (h : f_X8_shared_213 v6 v7 v8 v9 u0 u1 σ = some (r, σ')) : WM d X Y b mi_X8_shared 213 [none, none, none, none, none, none, some (vI v6), some (vI v7), some (vI v8), some (vI v9), none, none] [vI u1, vI u0] σ (some (vI r), σ') := by
  rw [f_X8_shared_213] at h
  refine r_icmp_le (pcT := 233) (pc' := 216) d_X8_shared_213 rfl rfl h (fun _ h => ?_) (fun _ h => ?_)
  · refine r_iload (pc' := 235) d_X8_shared_233 rfl rfl ?_
    refine r_iload (pc' := 237) d_X8_shared_235 rfl rfl ?_
    refine r_icmp_ge (pcT := 245) (pc' := 240) d_X8_shared_237 rfl rfl h (fun _ h => ?_) (fun _ h => ?_)
    · refine r_iload (pc' := 247) d_X8_shared_245 rfl rfl ?_
      exact WM.drop [] rfl (t_X8_shared_247 h)
    · refine r_iload (pc' := 242) d_X8_shared_240 rfl rfl ?_
      refine r_goto (pc' := 247) d_X8_shared_242 rfl ?_
      exact WM.drop [] rfl (t_X8_shared_247 h)
  · refine r_iload (pc' := 218) d_X8_shared_216 rfl rfl ?_
    refine r_iload (pc' := 220) d_X8_shared_218 rfl rfl ?_
    refine r_icmp_ge (pcT := 228) (pc' := 223) d_X8_shared_220 rfl rfl h (fun _ h => ?_) (fun _ h => ?_)
    · refine r_iload (pc' := 230) d_X8_shared_228 rfl rfl ?_
      refine r_goto (pc' := 247) d_X8_shared_230 rfl ?_
      exact WM.drop [] rfl (t_X8_shared_247 h)
    · refine r_iload (pc' := 225) d_X8_shared_223 rfl rfl ?_
      refine r_goto (pc' := 247) d_X8_shared_225 rfl ?_
      exact WM.drop [] rfl (t_X8_shared_247 h)
def f_X8_shared_199 (v6 : Int32) (v7 : Int32) (v8 : Int32) (v9 : Int32) (u0 : Int32) (σ : SS) : Option (Int32 × SS) := if v9 ≤ v8 then (f_X8_shared_213 v6 v7 v8 v9 u0 v9 σ) else (f_X8_shared_213 v6 v7 v8 v9 u0 v8 σ)
set_option maxRecDepth 20000 in
theorem t_X8_shared_199 {d : Nat} {X : MX} {Y : MY} {b : Nat × Nat} {r : Int32} {σ' : SS} {v6 : Int32} {v7 : Int32} {v8 : Int32} {v9 : Int32} {u0 : Int32} {σ : SS} (h : f_X8_shared_199 v6 v7 v8 v9 u0 σ = some (r, σ')) : WM d X Y b mi_X8_shared 199 [none, none, none, none, none, none, some (vI v6), some (vI v7), some (vI v8), some (vI v9), none, none] [vI u0] σ (some (vI r), σ') := by
  rw [f_X8_shared_199] at h
  refine r_iload (pc' := 201) d_X8_shared_199 rfl rfl ?_
  refine r_iload (pc' := 203) d_X8_shared_201 rfl rfl ?_
  refine r_icmp_ge (pcT := 211) (pc' := 206) d_X8_shared_203 rfl rfl h (fun _ h => ?_) (fun _ h => ?_)
  · refine r_iload (pc' := 213) d_X8_shared_211 rfl rfl ?_
    exact WM.drop [] rfl (t_X8_shared_213 h)
  · refine r_iload (pc' := 208) d_X8_shared_206 rfl rfl ?_
    refine r_goto (pc' := 213) d_X8_shared_208 rfl ?_
    exact WM.drop [] rfl (t_X8_shared_213 h)
def f_X8_shared_183 (v6 : Int32) (v7 : Int32) (v8 : Int32) (u0 : Int32) (σ : SS) : Option (Int32 × SS) := if v7 ≤ v6 then (f_X8_shared_199 v6 v7 v8 u0 v7 σ) else (f_X8_shared_199 v6 v7 v8 u0 v6 σ)
set_option maxRecDepth 20000 in
theorem t_X8_shared_183 {d : Nat} {X : MX} {Y : MY} {b : Nat × Nat} {r : Int32} {σ' : SS} {v6 : Int32} {v7 : Int32} {v8 : Int32} {u0 : Int32} {σ : SS} (h : f_X8_shared_183 v6 v7 v8 u0 σ = some (r, σ')) : WM d X Y b mi_X8_shared 183 [none, none, none, none, none, none, some (vI v6), some (vI v7), some (vI v8), none, none, none] [vI u0] σ (some (vI r), σ') := by
  rw [f_X8_shared_183] at h
  refine r_istore (pc' := 185) d_X8_shared_183 rfl rfl rfl ?_
  refine r_iload (pc' := 187) d_X8_shared_185 rfl rfl ?_
  refine r_iload (pc' := 189) d_X8_shared_187 rfl rfl ?_
  refine r_icmp_ge (pcT := 197) (pc' := 192) d_X8_shared_189 rfl rfl h (fun _ h => ?_) (fun _ h => ?_)
  · refine r_iload (pc' := 199) d_X8_shared_197 rfl rfl ?_
    exact WM.drop [] rfl (t_X8_shared_199 h)
  · refine r_iload (pc' := 194) d_X8_shared_192 rfl rfl ?_
    refine r_goto (pc' := 199) d_X8_shared_194 rfl ?_
    exact WM.drop [] rfl (t_X8_shared_199 h)
def f_X8_shared_161 (v2 : Int32) (v4 : Int32) (v6 : Int32) (v7 : Int32) (u0 : Int32) (σ : SS) : Option (Int32 × SS) := if v4 = 0 then (chk (inr v2 8) (f_X8_shared_183 v6 v7 u0 (σ.1 61 0 (ix v2)) σ)) else (chk (inr v2 8) (f_X8_shared_183 v6 v7 u0 (σ.1 62 0 (ix v2)) σ))
set_option maxRecDepth 20000 in
theorem t_X8_shared_161 {d : Nat} {X : MX} {Y : MY} {b : Nat × Nat} {r : Int32} {σ' : SS} {v2 : Int32} {v4 : Int32} {v6 : Int32} {v7 : Int32} {u0 : Int32} {σ : SS} (h : f_X8_shared_161 v2 v4 v6 v7 u0 σ = some (r, σ')) : WM d X Y b mi_X8_shared 161 [some (vR 25 0), none, some (vI v2), none, some (vI v4), none, some (vI v6), some (vI v7), none, none, none, none] [vI u0] σ (some (vI r), σ') := by
  rw [f_X8_shared_161] at h
  refine r_istore (pc' := 163) d_X8_shared_161 rfl rfl rfl ?_
  refine r_iload (pc' := 165) d_X8_shared_163 rfl rfl ?_
  refine r_if_eq (pcT := 177) (pc' := 168) d_X8_shared_165 rfl rfl h (fun _ h => ?_) (fun _ h => ?_)
  · refine r_aload_n (pc' := 178) d_X8_shared_177 rfl rfl rfl ?_
    refine r_get (v := vR 61 _) (pc' := 181) fl_X8_65 d_X8_shared_178 rfl rfl (fun g => Or.inl ⟨rfl, g.2⟩) rfl ?_
    refine r_iload_n (pc' := 182) d_X8_shared_181 rfl rfl rfl ?_
    refine r_iaload (pc' := 183) d_X8_shared_182 rfl (fun _ => rfl) rfl h (fun h => ?_)
    exact WM.drop [0, 2, 4] rfl (t_X8_shared_183 h)
  · refine r_aload_n (pc' := 169) d_X8_shared_168 rfl rfl rfl ?_
    refine r_get (v := vR 62 _) (pc' := 172) fl_X8_68 d_X8_shared_169 rfl rfl (fun g => Or.inl ⟨rfl, g.2⟩) rfl ?_
    refine r_iload_n (pc' := 173) d_X8_shared_172 rfl rfl rfl ?_
    refine r_iaload (pc' := 174) d_X8_shared_173 rfl (fun _ => rfl) rfl h (fun h => ?_)
    refine r_goto (pc' := 183) d_X8_shared_174 rfl ?_
    exact WM.drop [0, 2, 4] rfl (t_X8_shared_183 h)
def f_X8_shared_139 (v2 : Int32) (v4 : Int32) (v6 : Int32) (u0 : Int32) (σ : SS) : Option (Int32 × SS) := if v4 = 0 then (chk (inr v2 8) (f_X8_shared_161 v2 v4 v6 u0 (σ.1 59 0 (ix v2)) σ)) else (chk (inr v2 8) (f_X8_shared_161 v2 v4 v6 u0 (σ.1 60 0 (ix v2)) σ))
set_option maxRecDepth 20000 in
theorem t_X8_shared_139 {d : Nat} {X : MX} {Y : MY} {b : Nat × Nat} {r : Int32} {σ' : SS} {v2 : Int32} {v4 : Int32} {v6 : Int32} {u0 : Int32} {σ : SS} (h : f_X8_shared_139 v2 v4 v6 u0 σ = some (r, σ')) : WM d X Y b mi_X8_shared 139 [some (vR 25 0), none, some (vI v2), none, some (vI v4), none, some (vI v6), none, none, none, none, none] [vI u0] σ (some (vI r), σ') := by
  rw [f_X8_shared_139] at h
  refine r_istore (pc' := 141) d_X8_shared_139 rfl rfl rfl ?_
  refine r_iload (pc' := 143) d_X8_shared_141 rfl rfl ?_
  refine r_if_eq (pcT := 155) (pc' := 146) d_X8_shared_143 rfl rfl h (fun _ h => ?_) (fun _ h => ?_)
  · refine r_aload_n (pc' := 156) d_X8_shared_155 rfl rfl rfl ?_
    refine r_get (v := vR 59 _) (pc' := 159) fl_X8_59 d_X8_shared_156 rfl rfl (fun g => Or.inl ⟨rfl, g.2⟩) rfl ?_
    refine r_iload_n (pc' := 160) d_X8_shared_159 rfl rfl rfl ?_
    refine r_iaload (pc' := 161) d_X8_shared_160 rfl (fun _ => rfl) rfl h (fun h => ?_)
    exact WM.drop [] rfl (t_X8_shared_161 h)
  · refine r_aload_n (pc' := 147) d_X8_shared_146 rfl rfl rfl ?_
    refine r_get (v := vR 60 _) (pc' := 150) fl_X8_62 d_X8_shared_147 rfl rfl (fun g => Or.inl ⟨rfl, g.2⟩) rfl ?_
    refine r_iload_n (pc' := 151) d_X8_shared_150 rfl rfl rfl ?_
    refine r_iaload (pc' := 152) d_X8_shared_151 rfl (fun _ => rfl) rfl h (fun h => ?_)
    refine r_goto (pc' := 161) d_X8_shared_152 rfl ?_
    exact WM.drop [] rfl (t_X8_shared_161 h)
def f_X8_shared_117 (v1 : Int32) (v2 : Int32) (v4 : Int32) (u0 : Int32) (σ : SS) : Option (Int32 × SS) := if v4 = 0 then (chk (inr v1 8) (f_X8_shared_139 v2 v4 u0 (σ.1 73 0 (ix v1)) σ)) else (chk (inr v1 8) (f_X8_shared_139 v2 v4 u0 (σ.1 74 0 (ix v1)) σ))
set_option maxRecDepth 20000 in
theorem t_X8_shared_117 {d : Nat} {X : MX} {Y : MY} {b : Nat × Nat} {r : Int32} {σ' : SS} {v1 : Int32} {v2 : Int32} {v4 : Int32} {u0 : Int32} {σ : SS} (h : f_X8_shared_117 v1 v2 v4 u0 σ = some (r, σ')) : WM d X Y b mi_X8_shared 117 [some (vR 25 0), some (vI v1), some (vI v2), none, some (vI v4), none, none, none, none, none, none, none] [vI u0] σ (some (vI r), σ') := by
  rw [f_X8_shared_117] at h
  refine r_istore (pc' := 119) d_X8_shared_117 rfl rfl rfl ?_
  refine r_iload (pc' := 121) d_X8_shared_119 rfl rfl ?_
  refine r_if_eq (pcT := 133) (pc' := 124) d_X8_shared_121 rfl rfl h (fun _ h => ?_) (fun _ h => ?_)
  · refine r_aload_n (pc' := 134) d_X8_shared_133 rfl rfl rfl ?_
    refine r_get (v := vR 73 _) (pc' := 137) fl_X8_89 d_X8_shared_134 rfl rfl (fun g => Or.inl ⟨rfl, g.2⟩) rfl ?_
    refine r_iload_n (pc' := 138) d_X8_shared_137 rfl rfl rfl ?_
    refine r_iaload (pc' := 139) d_X8_shared_138 rfl (fun _ => rfl) rfl h (fun h => ?_)
    exact WM.drop [1] rfl (t_X8_shared_139 h)
  · refine r_aload_n (pc' := 125) d_X8_shared_124 rfl rfl rfl ?_
    refine r_get (v := vR 74 _) (pc' := 128) fl_X8_92 d_X8_shared_125 rfl rfl (fun g => Or.inl ⟨rfl, g.2⟩) rfl ?_
    refine r_iload_n (pc' := 129) d_X8_shared_128 rfl rfl rfl ?_
    refine r_iaload (pc' := 130) d_X8_shared_129 rfl (fun _ => rfl) rfl h (fun h => ?_)
    refine r_goto (pc' := 139) d_X8_shared_130 rfl ?_
    exact WM.drop [1] rfl (t_X8_shared_139 h)
def f_X8_shared_18 (v1 : Int32) (v2 : Int32) (v3 : Int32) (u0 : Int32) (σ : SS) : Option (Int32 × SS) := chk (inr v3 8) (chk (inr v1 8) (chk (inr v3 8) (chk (inr v1 8) (lt_ (((σ.1 40 0 (ix v3)) * (σ.1 71 0 (ix v1))) + ((σ.1 41 0 (ix v3)) * (σ.1 72 0 (ix v1)))) (fun x1 => chk (inr v2 8) (if ((σ.1 58 0 (ix v2)) - (σ.1 58 0 (ix v2)) / (4 : Int32) * (4 : Int32)) = (v3 - v3 / (4 : Int32) * (4 : Int32)) then (chk (inr v3 8) (chk (inr v2 8) (chk (inr v3 8) (chk (inr v2 8) (if (((σ.1 40 0 (ix v3)) * (σ.1 59 0 (ix v2))) + ((σ.1 41 0 (ix v3)) * (σ.1 60 0 (ix v2)))) = x1 then (if u0 = 0 then (chk (inr v1 8) (f_X8_shared_117 v1 v2 u0 (σ.1 71 0 (ix v1)) σ)) else (chk (inr v1 8) (f_X8_shared_117 v1 v2 u0 (σ.1 72 0 (ix v1)) σ))) else (some ((0 : Int32), σ))))))) else (some ((0 : Int32), σ))))))))
set_option maxRecDepth 20000 in
theorem t_X8_shared_18 {d : Nat} {X : MX} {Y : MY} {b : Nat × Nat} {r : Int32} {σ' : SS} {v1 : Int32} {v2 : Int32} {v3 : Int32} {u0 : Int32} {σ : SS} (h : f_X8_shared_18 v1 v2 v3 u0 σ = some (r, σ')) : WM d X Y b mi_X8_shared 18 [some (vR 25 0), some (vI v1), some (vI v2), some (vI v3), none, none, none, none, none, none, none, none] [vI u0] σ (some (vI r), σ') := by
  rw [f_X8_shared_18] at h
  refine r_istore (pc' := 20) d_X8_shared_18 rfl rfl rfl ?_
  refine r_aload_n (pc' := 21) d_X8_shared_20 rfl rfl rfl ?_
  refine r_get (v := vR 40 _) (pc' := 24) fl_X8_7 d_X8_shared_21 rfl rfl (fun g => Or.inl ⟨rfl, g.2⟩) rfl ?_
  refine r_iload_n (pc' := 25) d_X8_shared_24 rfl rfl rfl ?_
  refine r_iaload (pc' := 26) d_X8_shared_25 rfl (fun _ => rfl) rfl h (fun h => ?_)
  refine r_aload_n (pc' := 27) d_X8_shared_26 rfl rfl rfl ?_
  refine r_get (v := vR 71 _) (pc' := 30) fl_X8_83 d_X8_shared_27 rfl rfl (fun g => Or.inl ⟨rfl, g.2⟩) rfl ?_
  refine r_iload_n (pc' := 31) d_X8_shared_30 rfl rfl rfl ?_
  refine r_iaload (pc' := 32) d_X8_shared_31 rfl (fun _ => rfl) rfl h (fun h => ?_)
  refine r_imul (pc' := 33) d_X8_shared_32 rfl ?_
  refine r_aload_n (pc' := 34) d_X8_shared_33 rfl rfl rfl ?_
  refine r_get (v := vR 41 _) (pc' := 37) fl_X8_13 d_X8_shared_34 rfl rfl (fun g => Or.inl ⟨rfl, g.2⟩) rfl ?_
  refine r_iload_n (pc' := 38) d_X8_shared_37 rfl rfl rfl ?_
  refine r_iaload (pc' := 39) d_X8_shared_38 rfl (fun _ => rfl) rfl h (fun h => ?_)
  refine r_aload_n (pc' := 40) d_X8_shared_39 rfl rfl rfl ?_
  refine r_get (v := vR 72 _) (pc' := 43) fl_X8_86 d_X8_shared_40 rfl rfl (fun g => Or.inl ⟨rfl, g.2⟩) rfl ?_
  refine r_iload_n (pc' := 44) d_X8_shared_43 rfl rfl rfl ?_
  refine r_iaload (pc' := 45) d_X8_shared_44 rfl (fun _ => rfl) rfl h (fun h => ?_)
  refine r_imul (pc' := 46) d_X8_shared_45 rfl ?_
  refine r_iadd (pc' := 47) d_X8_shared_46 rfl ?_
  refine l_istore (pc' := 49) d_X8_shared_47 rfl rfl rfl h (fun x1 h => ?_)
  refine r_aload_n (pc' := 50) d_X8_shared_49 rfl rfl rfl ?_
  refine r_get (v := vR 58 _) (pc' := 53) fl_X8_56 d_X8_shared_50 rfl rfl (fun g => Or.inl ⟨rfl, g.2⟩) rfl ?_
  refine r_iload_n (pc' := 54) d_X8_shared_53 rfl rfl rfl ?_
  refine r_iaload (pc' := 55) d_X8_shared_54 rfl (fun _ => rfl) rfl h (fun h => ?_)
  refine r_iconst (pc' := 56) d_X8_shared_55 ci_4 rfl ?_
  refine r_irem (pc' := 57) d_X8_shared_56 (by decide) rfl ?_
  refine r_iload_n (pc' := 58) d_X8_shared_57 rfl rfl rfl ?_
  refine r_iconst (pc' := 59) d_X8_shared_58 ci_4 rfl ?_
  refine r_irem (pc' := 60) d_X8_shared_59 (by decide) rfl ?_
  refine r_icmp_ne (pcT := 95) (pc' := 63) d_X8_shared_60 rfl rfl h (fun _ h => ?_) (fun _ h => ?_)
  · refine r_aload_n (pc' := 64) d_X8_shared_63 rfl rfl rfl ?_
    refine r_get (v := vR 40 _) (pc' := 67) fl_X8_7 d_X8_shared_64 rfl rfl (fun g => Or.inl ⟨rfl, g.2⟩) rfl ?_
    refine r_iload_n (pc' := 68) d_X8_shared_67 rfl rfl rfl ?_
    refine r_iaload (pc' := 69) d_X8_shared_68 rfl (fun _ => rfl) rfl h (fun h => ?_)
    refine r_aload_n (pc' := 70) d_X8_shared_69 rfl rfl rfl ?_
    refine r_get (v := vR 59 _) (pc' := 73) fl_X8_59 d_X8_shared_70 rfl rfl (fun g => Or.inl ⟨rfl, g.2⟩) rfl ?_
    refine r_iload_n (pc' := 74) d_X8_shared_73 rfl rfl rfl ?_
    refine r_iaload (pc' := 75) d_X8_shared_74 rfl (fun _ => rfl) rfl h (fun h => ?_)
    refine r_imul (pc' := 76) d_X8_shared_75 rfl ?_
    refine r_aload_n (pc' := 77) d_X8_shared_76 rfl rfl rfl ?_
    refine r_get (v := vR 41 _) (pc' := 80) fl_X8_13 d_X8_shared_77 rfl rfl (fun g => Or.inl ⟨rfl, g.2⟩) rfl ?_
    refine r_iload_n (pc' := 81) d_X8_shared_80 rfl rfl rfl ?_
    refine r_iaload (pc' := 82) d_X8_shared_81 rfl (fun _ => rfl) rfl h (fun h => ?_)
    refine r_aload_n (pc' := 83) d_X8_shared_82 rfl rfl rfl ?_
    refine r_get (v := vR 60 _) (pc' := 86) fl_X8_62 d_X8_shared_83 rfl rfl (fun g => Or.inl ⟨rfl, g.2⟩) rfl ?_
    refine r_iload_n (pc' := 87) d_X8_shared_86 rfl rfl rfl ?_
    refine r_iaload (pc' := 88) d_X8_shared_87 rfl (fun _ => rfl) rfl h (fun h => ?_)
    refine r_imul (pc' := 89) d_X8_shared_88 rfl ?_
    refine r_iadd (pc' := 90) d_X8_shared_89 rfl ?_
    refine r_iload (pc' := 92) d_X8_shared_90 rfl rfl ?_
    refine r_icmp_eq (pcT := 97) (pc' := 95) d_X8_shared_92 rfl rfl h (fun _ h => ?_) (fun _ h => ?_)
    · refine r_iload (pc' := 99) d_X8_shared_97 rfl rfl ?_
      refine r_if_eq (pcT := 111) (pc' := 102) d_X8_shared_99 rfl rfl h (fun _ h => ?_) (fun _ h => ?_)
      · refine r_aload_n (pc' := 112) d_X8_shared_111 rfl rfl rfl ?_
        refine r_get (v := vR 71 _) (pc' := 115) fl_X8_83 d_X8_shared_112 rfl rfl (fun g => Or.inl ⟨rfl, g.2⟩) rfl ?_
        refine r_iload_n (pc' := 116) d_X8_shared_115 rfl rfl rfl ?_
        refine r_iaload (pc' := 117) d_X8_shared_116 rfl (fun _ => rfl) rfl h (fun h => ?_)
        exact WM.drop [3, 5] rfl (t_X8_shared_117 h)
      · refine r_aload_n (pc' := 103) d_X8_shared_102 rfl rfl rfl ?_
        refine r_get (v := vR 72 _) (pc' := 106) fl_X8_86 d_X8_shared_103 rfl rfl (fun g => Or.inl ⟨rfl, g.2⟩) rfl ?_
        refine r_iload_n (pc' := 107) d_X8_shared_106 rfl rfl rfl ?_
        refine r_iaload (pc' := 108) d_X8_shared_107 rfl (fun _ => rfl) rfl h (fun h => ?_)
        refine r_goto (pc' := 117) d_X8_shared_108 rfl ?_
        exact WM.drop [3, 5] rfl (t_X8_shared_117 h)
    · refine r_iconst (pc' := 96) d_X8_shared_95 ci_0 rfl ?_
      exact r_iret d_X8_shared_96 rfl h
  · refine r_iconst (pc' := 96) d_X8_shared_95 ci_0 rfl ?_
    exact r_iret d_X8_shared_96 rfl h
def f_X8_shared (v1 : Int32) (v2 : Int32) (σ : SS) : Option (Int32 × SS) := chk (inr v1 8) (lt_ (σ.1 70 0 (ix v1)) (fun x1 => if (x1 - x1 / (4 : Int32) * (4 : Int32)) = 0 then (f_X8_shared_18 v1 v2 x1 (1 : Int32) σ) else (f_X8_shared_18 v1 v2 x1 (0 : Int32) σ)))
set_option maxRecDepth 20000 in
theorem t_X8_shared {d : Nat} {b : Nat × Nat} {v1 : Int32} {v2 : Int32} {σ : SS} {r : Int32} {σ' : SS} (h : f_X8_shared v1 v2 σ = some (r, σ')) : MM d b mi_X8_shared [vR 25 0, vI v1, vI v2] σ (some (vI r), σ') := by
  refine MM.of (lv := [some (vR 25 0), some (vI v1), some (vI v2), none, none, none, none, none, none, none, none, none]) (by decide +kernel) rfl rfl (fun X Y => ?_)
  rw [f_X8_shared] at h
  refine r_aload_n (pc' := 1) d_X8_shared_0 rfl rfl rfl ?_
  refine r_get (v := vR 70 _) (pc' := 4) fl_X8_80 d_X8_shared_1 rfl rfl (fun g => Or.inl ⟨rfl, g.2⟩) rfl ?_
  refine r_iload_n (pc' := 5) d_X8_shared_4 rfl rfl rfl ?_
  refine r_iaload (pc' := 6) d_X8_shared_5 rfl (fun _ => rfl) rfl h (fun h => ?_)
  refine l_istore_n (pc' := 7) d_X8_shared_6 rfl rfl rfl rfl h (fun x1 h => ?_)
  refine r_iload_n (pc' := 8) d_X8_shared_7 rfl rfl rfl ?_
  refine r_iconst (pc' := 9) d_X8_shared_8 ci_4 rfl ?_
  refine r_irem (pc' := 10) d_X8_shared_9 (by decide) rfl ?_
  refine r_if_ne (pcT := 17) (pc' := 13) d_X8_shared_10 rfl rfl h (fun _ h => ?_) (fun _ h => ?_)
  · refine r_iconst (pc' := 14) d_X8_shared_13 ci_1 rfl ?_
    refine r_goto (pc' := 18) d_X8_shared_14 rfl ?_
    exact WM.drop [] rfl (t_X8_shared_18 h)
  · refine r_iconst (pc' := 18) d_X8_shared_17 ci_0 rfl ?_
    exact WM.drop [] rfl (t_X8_shared_18 h)
/-! OctagonYardModel.keepsSides()V -/
def mi_X8_keepsSides : MI := (yX8_keepsSides, cX8_keepsSides, 2, none)
theorem d_X8_keepsSides_0 : decode mi_X8_keepsSides.2.1 0 = .ok (.aload_n 0, 1) := by decide +kernel
theorem d_X8_keepsSides_1 : decode mi_X8_keepsSides.2.1 1 = .ok (.aload_n 0, 1) := by decide +kernel
theorem d_X8_keepsSides_2 : decode mi_X8_keepsSides.2.1 2 = .ok (.getfield 157, 3) := by decide +kernel
theorem d_X8_keepsSides_5 : decode mi_X8_keepsSides.2.1 5 = .ok (.putfield 232, 3) := by decide +kernel
theorem d_X8_keepsSides_8 : decode mi_X8_keepsSides.2.1 8 = .ok (.iconst 0, 1) := by decide +kernel
theorem d_X8_keepsSides_9 : decode mi_X8_keepsSides.2.1 9 = .ok (.istore_n 1, 1) := by decide +kernel
theorem d_X8_keepsSides_10 : decode mi_X8_keepsSides.2.1 10 = .ok (.iload_n 1, 1) := by decide +kernel
theorem d_X8_keepsSides_11 : decode mi_X8_keepsSides.2.1 11 = .ok (.aload_n 0, 1) := by decide +kernel
theorem d_X8_keepsSides_12 : decode mi_X8_keepsSides.2.1 12 = .ok (.getfield 157, 3) := by decide +kernel
theorem d_X8_keepsSides_15 : decode mi_X8_keepsSides.2.1 15 = .ok (.if_icmp .ge 69, 3) := by decide +kernel
theorem d_X8_keepsSides_18 : decode mi_X8_keepsSides.2.1 18 = .ok (.aload_n 0, 1) := by decide +kernel
theorem d_X8_keepsSides_19 : decode mi_X8_keepsSides.2.1 19 = .ok (.getfield 80, 3) := by decide +kernel
theorem d_X8_keepsSides_22 : decode mi_X8_keepsSides.2.1 22 = .ok (.iload_n 1, 1) := by decide +kernel
theorem d_X8_keepsSides_23 : decode mi_X8_keepsSides.2.1 23 = .ok (.aload_n 0, 1) := by decide +kernel
theorem d_X8_keepsSides_24 : decode mi_X8_keepsSides.2.1 24 = .ok (.getfield 56, 3) := by decide +kernel
theorem d_X8_keepsSides_27 : decode mi_X8_keepsSides.2.1 27 = .ok (.iload_n 1, 1) := by decide +kernel
theorem d_X8_keepsSides_28 : decode mi_X8_keepsSides.2.1 28 = .ok (.iaload, 1) := by decide +kernel
theorem d_X8_keepsSides_29 : decode mi_X8_keepsSides.2.1 29 = .ok (.iastore, 1) := by decide +kernel
theorem d_X8_keepsSides_30 : decode mi_X8_keepsSides.2.1 30 = .ok (.aload_n 0, 1) := by decide +kernel
theorem d_X8_keepsSides_31 : decode mi_X8_keepsSides.2.1 31 = .ok (.getfield 83, 3) := by decide +kernel
theorem d_X8_keepsSides_34 : decode mi_X8_keepsSides.2.1 34 = .ok (.iload_n 1, 1) := by decide +kernel
theorem d_X8_keepsSides_35 : decode mi_X8_keepsSides.2.1 35 = .ok (.aload_n 0, 1) := by decide +kernel
theorem d_X8_keepsSides_36 : decode mi_X8_keepsSides.2.1 36 = .ok (.getfield 59, 3) := by decide +kernel
theorem d_X8_keepsSides_39 : decode mi_X8_keepsSides.2.1 39 = .ok (.iload_n 1, 1) := by decide +kernel
theorem d_X8_keepsSides_40 : decode mi_X8_keepsSides.2.1 40 = .ok (.iaload, 1) := by decide +kernel
theorem d_X8_keepsSides_41 : decode mi_X8_keepsSides.2.1 41 = .ok (.iastore, 1) := by decide +kernel
theorem d_X8_keepsSides_42 : decode mi_X8_keepsSides.2.1 42 = .ok (.aload_n 0, 1) := by decide +kernel
theorem d_X8_keepsSides_43 : decode mi_X8_keepsSides.2.1 43 = .ok (.getfield 86, 3) := by decide +kernel
theorem d_X8_keepsSides_46 : decode mi_X8_keepsSides.2.1 46 = .ok (.iload_n 1, 1) := by decide +kernel
theorem d_X8_keepsSides_47 : decode mi_X8_keepsSides.2.1 47 = .ok (.aload_n 0, 1) := by decide +kernel
theorem d_X8_keepsSides_48 : decode mi_X8_keepsSides.2.1 48 = .ok (.getfield 62, 3) := by decide +kernel
theorem d_X8_keepsSides_51 : decode mi_X8_keepsSides.2.1 51 = .ok (.iload_n 1, 1) := by decide +kernel
theorem d_X8_keepsSides_52 : decode mi_X8_keepsSides.2.1 52 = .ok (.iaload, 1) := by decide +kernel
theorem d_X8_keepsSides_53 : decode mi_X8_keepsSides.2.1 53 = .ok (.iastore, 1) := by decide +kernel
theorem d_X8_keepsSides_54 : decode mi_X8_keepsSides.2.1 54 = .ok (.aload_n 0, 1) := by decide +kernel
theorem d_X8_keepsSides_55 : decode mi_X8_keepsSides.2.1 55 = .ok (.getfield 89, 3) := by decide +kernel
theorem d_X8_keepsSides_58 : decode mi_X8_keepsSides.2.1 58 = .ok (.iload_n 1, 1) := by decide +kernel
theorem d_X8_keepsSides_59 : decode mi_X8_keepsSides.2.1 59 = .ok (.aload_n 0, 1) := by decide +kernel
theorem d_X8_keepsSides_60 : decode mi_X8_keepsSides.2.1 60 = .ok (.getfield 65, 3) := by decide +kernel
theorem d_X8_keepsSides_63 : decode mi_X8_keepsSides.2.1 63 = .ok (.iload_n 1, 1) := by decide +kernel
theorem d_X8_keepsSides_64 : decode mi_X8_keepsSides.2.1 64 = .ok (.iaload, 1) := by decide +kernel
theorem d_X8_keepsSides_65 : decode mi_X8_keepsSides.2.1 65 = .ok (.iastore, 1) := by decide +kernel
theorem d_X8_keepsSides_66 : decode mi_X8_keepsSides.2.1 66 = .ok (.aload_n 0, 1) := by decide +kernel
theorem d_X8_keepsSides_67 : decode mi_X8_keepsSides.2.1 67 = .ok (.getfield 92, 3) := by decide +kernel
theorem d_X8_keepsSides_70 : decode mi_X8_keepsSides.2.1 70 = .ok (.iload_n 1, 1) := by decide +kernel
theorem d_X8_keepsSides_71 : decode mi_X8_keepsSides.2.1 71 = .ok (.aload_n 0, 1) := by decide +kernel
theorem d_X8_keepsSides_72 : decode mi_X8_keepsSides.2.1 72 = .ok (.getfield 68, 3) := by decide +kernel
theorem d_X8_keepsSides_75 : decode mi_X8_keepsSides.2.1 75 = .ok (.iload_n 1, 1) := by decide +kernel
theorem d_X8_keepsSides_76 : decode mi_X8_keepsSides.2.1 76 = .ok (.iaload, 1) := by decide +kernel
theorem d_X8_keepsSides_77 : decode mi_X8_keepsSides.2.1 77 = .ok (.iastore, 1) := by decide +kernel
theorem d_X8_keepsSides_78 : decode mi_X8_keepsSides.2.1 78 = .ok (.iinc 1 1, 3) := by decide +kernel
theorem d_X8_keepsSides_81 : decode mi_X8_keepsSides.2.1 81 = .ok (.goto (-71), 3) := by decide +kernel
theorem d_X8_keepsSides_84 : decode mi_X8_keepsSides.2.1 84 = .ok (.return_, 1) := by decide +kernel
theorem fl_X8_232 : FL RX8 232 8 49 29 := ⟨RX8, TX8, rfl, by decide, rfl, by decide +kernel, in_8⟩
theorem fw_8_29 : FW 8 49 29 .int := ⟨RX8, TX8, tyX8, rfl, rfl, by decide +kernel, tyX8_ok, nmX8⟩
def f_X8_keepsSides_10 : Nat → Int32 → SS → Option (Unit × SS)
  | 0, _, _ => none
  | n + 1, v1, σ => if (σ.1 25 0 17) ≤ v1 then (some ((), σ)) else (chk (inr v1 8) (chk (inr v1 8) (lt_ (up σ 70 0 (ix v1) (σ.1 58 0 (ix v1))) (fun s1 => chk (inr v1 8) (chk (inr v1 8) (lt_ (up s1 71 0 (ix v1) (s1.1 59 0 (ix v1))) (fun s2 => chk (inr v1 8) (chk (inr v1 8) (lt_ (up s2 72 0 (ix v1) (s2.1 60 0 (ix v1))) (fun s3 => chk (inr v1 8) (chk (inr v1 8) (lt_ (up s3 73 0 (ix v1) (s3.1 61 0 (ix v1))) (fun s4 => chk (inr v1 8) (chk (inr v1 8) (lt_ (up s4 74 0 (ix v1) (s4.1 62 0 (ix v1))) (fun s5 => lt_ (v1 + (1 : Int32)) (fun x6 => f_X8_keepsSides_10 n x6 s5)))))))))))))))))
set_option maxRecDepth 20000 in
theorem t_X8_keepsSides_10 {d : Nat} {X : MX} {Y : MY} {b : Nat × Nat} {r : Unit} {σ' : SS} : ∀ (n : Nat) (v1 : Int32) (σ : SS), f_X8_keepsSides_10 n v1 σ = some (r, σ') → WM d X Y b mi_X8_keepsSides 10 [some (vR 25 0), some (vI v1)] [] σ (none, σ') := by
  intro n
  induction n with
  | zero => intro _ σ h; cases h
  | succ n ih =>
    intro v1 σ h
    rw [f_X8_keepsSides_10] at h
    refine r_iload_n (pc' := 11) d_X8_keepsSides_10 rfl rfl rfl ?_
    refine r_aload_n (pc' := 12) d_X8_keepsSides_11 rfl rfl rfl ?_
    refine r_get (v := vI _) (pc' := 15) fl_X8_157 d_X8_keepsSides_12 rfl rfl (fun _ => trivial) rfl ?_
    refine r_icmp_ge (pcT := 84) (pc' := 18) d_X8_keepsSides_15 rfl rfl h (fun _ h => ?_) (fun _ h => ?_)
    · exact r_vret d_X8_keepsSides_84 rfl h
    · refine r_aload_n (pc' := 19) d_X8_keepsSides_18 rfl rfl rfl ?_
      refine r_get (v := vR 70 _) (pc' := 22) fl_X8_80 d_X8_keepsSides_19 rfl rfl (fun g => Or.inl ⟨rfl, g.2⟩) rfl ?_
      refine r_iload_n (pc' := 23) d_X8_keepsSides_22 rfl rfl rfl ?_
      refine r_aload_n (pc' := 24) d_X8_keepsSides_23 rfl rfl rfl ?_
      refine r_get (v := vR 58 _) (pc' := 27) fl_X8_56 d_X8_keepsSides_24 rfl rfl (fun g => Or.inl ⟨rfl, g.2⟩) rfl ?_
      refine r_iload_n (pc' := 28) d_X8_keepsSides_27 rfl rfl rfl ?_
      refine r_iaload (pc' := 29) d_X8_keepsSides_28 rfl (fun _ => rfl) rfl h (fun h => ?_)
      refine l_iastore (pc' := 30) d_X8_keepsSides_29 rfl (fun _ => rfl) (by decide) (by decide) (fun _ => rfl) rfl h (fun s1 h => ?_)
      refine r_aload_n (pc' := 31) d_X8_keepsSides_30 rfl rfl rfl ?_
      refine r_get (v := vR 71 _) (pc' := 34) fl_X8_83 d_X8_keepsSides_31 rfl rfl (fun g => Or.inl ⟨rfl, g.2⟩) rfl ?_
      refine r_iload_n (pc' := 35) d_X8_keepsSides_34 rfl rfl rfl ?_
      refine r_aload_n (pc' := 36) d_X8_keepsSides_35 rfl rfl rfl ?_
      refine r_get (v := vR 59 _) (pc' := 39) fl_X8_59 d_X8_keepsSides_36 rfl rfl (fun g => Or.inl ⟨rfl, g.2⟩) rfl ?_
      refine r_iload_n (pc' := 40) d_X8_keepsSides_39 rfl rfl rfl ?_
      refine r_iaload (pc' := 41) d_X8_keepsSides_40 rfl (fun _ => rfl) rfl h (fun h => ?_)
      refine l_iastore (pc' := 42) d_X8_keepsSides_41 rfl (fun _ => rfl) (by decide) (by decide) (fun _ => rfl) rfl h (fun s2 h => ?_)
      refine r_aload_n (pc' := 43) d_X8_keepsSides_42 rfl rfl rfl ?_
      refine r_get (v := vR 72 _) (pc' := 46) fl_X8_86 d_X8_keepsSides_43 rfl rfl (fun g => Or.inl ⟨rfl, g.2⟩) rfl ?_
      refine r_iload_n (pc' := 47) d_X8_keepsSides_46 rfl rfl rfl ?_
      refine r_aload_n (pc' := 48) d_X8_keepsSides_47 rfl rfl rfl ?_
      refine r_get (v := vR 60 _) (pc' := 51) fl_X8_62 d_X8_keepsSides_48 rfl rfl (fun g => Or.inl ⟨rfl, g.2⟩) rfl ?_
      refine r_iload_n (pc' := 52) d_X8_keepsSides_51 rfl rfl rfl ?_
      refine r_iaload (pc' := 53) d_X8_keepsSides_52 rfl (fun _ => rfl) rfl h (fun h => ?_)
      refine l_iastore (pc' := 54) d_X8_keepsSides_53 rfl (fun _ => rfl) (by decide) (by decide) (fun _ => rfl) rfl h (fun s3 h => ?_)
      refine r_aload_n (pc' := 55) d_X8_keepsSides_54 rfl rfl rfl ?_
      refine r_get (v := vR 73 _) (pc' := 58) fl_X8_89 d_X8_keepsSides_55 rfl rfl (fun g => Or.inl ⟨rfl, g.2⟩) rfl ?_
      refine r_iload_n (pc' := 59) d_X8_keepsSides_58 rfl rfl rfl ?_
      refine r_aload_n (pc' := 60) d_X8_keepsSides_59 rfl rfl rfl ?_
      refine r_get (v := vR 61 _) (pc' := 63) fl_X8_65 d_X8_keepsSides_60 rfl rfl (fun g => Or.inl ⟨rfl, g.2⟩) rfl ?_
      refine r_iload_n (pc' := 64) d_X8_keepsSides_63 rfl rfl rfl ?_
      refine r_iaload (pc' := 65) d_X8_keepsSides_64 rfl (fun _ => rfl) rfl h (fun h => ?_)
      refine l_iastore (pc' := 66) d_X8_keepsSides_65 rfl (fun _ => rfl) (by decide) (by decide) (fun _ => rfl) rfl h (fun s4 h => ?_)
      refine r_aload_n (pc' := 67) d_X8_keepsSides_66 rfl rfl rfl ?_
      refine r_get (v := vR 74 _) (pc' := 70) fl_X8_92 d_X8_keepsSides_67 rfl rfl (fun g => Or.inl ⟨rfl, g.2⟩) rfl ?_
      refine r_iload_n (pc' := 71) d_X8_keepsSides_70 rfl rfl rfl ?_
      refine r_aload_n (pc' := 72) d_X8_keepsSides_71 rfl rfl rfl ?_
      refine r_get (v := vR 62 _) (pc' := 75) fl_X8_68 d_X8_keepsSides_72 rfl rfl (fun g => Or.inl ⟨rfl, g.2⟩) rfl ?_
      refine r_iload_n (pc' := 76) d_X8_keepsSides_75 rfl rfl rfl ?_
      refine r_iaload (pc' := 77) d_X8_keepsSides_76 rfl (fun _ => rfl) rfl h (fun h => ?_)
      refine l_iastore (pc' := 78) d_X8_keepsSides_77 rfl (fun _ => rfl) (by decide) (by decide) (fun _ => rfl) rfl h (fun s5 h => ?_)
      refine l_iinc (pc' := 81) d_X8_keepsSides_78 rfl ci_1 rfl rfl rfl h (fun x6 h => ?_)
      refine r_goto (pc' := 10) d_X8_keepsSides_81 rfl ?_
      exact WM.drop [] rfl (ih _ _ h)
def f_X8_keepsSides (σ : SS) : Option (Unit × SS) := lt_ (up σ 25 0 29 (σ.1 25 0 17)) (fun s1 => f_X8_keepsSides_10 FU (0 : Int32) s1)
set_option maxRecDepth 20000 in
theorem t_X8_keepsSides {d : Nat} {b : Nat × Nat} {σ : SS} {r : Unit} {σ' : SS} (h : f_X8_keepsSides σ = some (r, σ')) : MM d b mi_X8_keepsSides [vR 25 0] σ (none, σ') := by
  refine MM.of (lv := [some (vR 25 0), none]) (by decide +kernel) rfl rfl (fun X Y => ?_)
  rw [f_X8_keepsSides] at h
  refine r_aload_n (pc' := 1) d_X8_keepsSides_0 rfl rfl rfl ?_
  refine r_aload_n (pc' := 2) d_X8_keepsSides_1 rfl rfl rfl ?_
  refine r_get (v := vI _) (pc' := 5) fl_X8_157 d_X8_keepsSides_2 rfl rfl (fun _ => trivial) rfl ?_
  refine l_put (k := 29) (pc' := 8) fl_X8_232 fw_8_29 rfl rfl d_X8_keepsSides_5 rfl (by decide) (by decide) rfl rfl h (fun s1 h => ?_)
  refine r_iconst (pc' := 9) d_X8_keepsSides_8 ci_0 rfl ?_
  refine r_istore_n (pc' := 10) d_X8_keepsSides_9 rfl rfl rfl rfl ?_
  exact WM.drop [] rfl (t_X8_keepsSides_10 _ _ _ h)
/-! OctagonYardModel.nearness(II)I -/
def mi_X8_nearness : MI := (yX8_nearness, cX8_nearness, 6, (some .int))
theorem d_X8_nearness_0 : decode mi_X8_nearness.2.1 0 = .ok (.aload_n 0, 1) := by decide +kernel
theorem d_X8_nearness_1 : decode mi_X8_nearness.2.1 1 = .ok (.iload_n 1, 1) := by decide +kernel
theorem d_X8_nearness_2 : decode mi_X8_nearness.2.1 2 = .ok (.iload_n 2, 1) := by decide +kernel
theorem d_X8_nearness_3 : decode mi_X8_nearness.2.1 3 = .ok (.invokevirtual 235, 3) := by decide +kernel
theorem d_X8_nearness_6 : decode mi_X8_nearness.2.1 6 = .ok (.ifCond .eq 5, 3) := by decide +kernel
theorem d_X8_nearness_9 : decode mi_X8_nearness.2.1 9 = .ok (.iconst 2, 1) := by decide +kernel
theorem d_X8_nearness_10 : decode mi_X8_nearness.2.1 10 = .ok (.ireturn, 1) := by decide +kernel
theorem d_X8_nearness_11 : decode mi_X8_nearness.2.1 11 = .ok (.aload_n 0, 1) := by decide +kernel
theorem d_X8_nearness_12 : decode mi_X8_nearness.2.1 12 = .ok (.iload_n 1, 1) := by decide +kernel
theorem d_X8_nearness_13 : decode mi_X8_nearness.2.1 13 = .ok (.invokevirtual 201, 3) := by decide +kernel
theorem d_X8_nearness_16 : decode mi_X8_nearness.2.1 16 = .ok (.aload_n 0, 1) := by decide +kernel
theorem d_X8_nearness_17 : decode mi_X8_nearness.2.1 17 = .ok (.invokevirtual 238, 3) := by decide +kernel
theorem d_X8_nearness_20 : decode mi_X8_nearness.2.1 20 = .ok (.aload_n 0, 1) := by decide +kernel
theorem d_X8_nearness_21 : decode mi_X8_nearness.2.1 21 = .ok (.iload_n 2, 1) := by decide +kernel
theorem d_X8_nearness_22 : decode mi_X8_nearness.2.1 22 = .ok (.invokevirtual 201, 3) := by decide +kernel
theorem d_X8_nearness_25 : decode mi_X8_nearness.2.1 25 = .ok (.aload_n 0, 1) := by decide +kernel
theorem d_X8_nearness_26 : decode mi_X8_nearness.2.1 26 = .ok (.iconst 0, 1) := by decide +kernel
theorem d_X8_nearness_27 : decode mi_X8_nearness.2.1 27 = .ok (.putfield 241, 3) := by decide +kernel
theorem d_X8_nearness_30 : decode mi_X8_nearness.2.1 30 = .ok (.iconst 0, 1) := by decide +kernel
theorem d_X8_nearness_31 : decode mi_X8_nearness.2.1 31 = .ok (.istore_n 3, 1) := by decide +kernel
theorem d_X8_nearness_32 : decode mi_X8_nearness.2.1 32 = .ok (.iload_n 3, 1) := by decide +kernel
theorem d_X8_nearness_33 : decode mi_X8_nearness.2.1 33 = .ok (.aload_n 0, 1) := by decide +kernel
theorem d_X8_nearness_34 : decode mi_X8_nearness.2.1 34 = .ok (.getfield 232, 3) := by decide +kernel
theorem d_X8_nearness_37 : decode mi_X8_nearness.2.1 37 = .ok (.if_icmp .ge 57, 3) := by decide +kernel
theorem d_X8_nearness_40 : decode mi_X8_nearness.2.1 40 = .ok (.iconst 0, 1) := by decide +kernel
theorem d_X8_nearness_41 : decode mi_X8_nearness.2.1 41 = .ok (.istore 4, 2) := by decide +kernel
theorem d_X8_nearness_43 : decode mi_X8_nearness.2.1 43 = .ok (.iload 4, 2) := by decide +kernel
theorem d_X8_nearness_45 : decode mi_X8_nearness.2.1 45 = .ok (.aload_n 0, 1) := by decide +kernel
theorem d_X8_nearness_46 : decode mi_X8_nearness.2.1 46 = .ok (.getfield 157, 3) := by decide +kernel
theorem d_X8_nearness_49 : decode mi_X8_nearness.2.1 49 = .ok (.if_icmp .ge 39, 3) := by decide +kernel
theorem d_X8_nearness_52 : decode mi_X8_nearness.2.1 52 = .ok (.aload_n 0, 1) := by decide +kernel
theorem d_X8_nearness_53 : decode mi_X8_nearness.2.1 53 = .ok (.iload_n 3, 1) := by decide +kernel
theorem d_X8_nearness_54 : decode mi_X8_nearness.2.1 54 = .ok (.iload 4, 2) := by decide +kernel
theorem d_X8_nearness_56 : decode mi_X8_nearness.2.1 56 = .ok (.invokevirtual 244, 3) := by decide +kernel
theorem d_X8_nearness_59 : decode mi_X8_nearness.2.1 59 = .ok (.istore 5, 2) := by decide +kernel
theorem d_X8_nearness_61 : decode mi_X8_nearness.2.1 61 = .ok (.iload 5, 2) := by decide +kernel
theorem d_X8_nearness_63 : decode mi_X8_nearness.2.1 63 = .ok (.ifCond .le 19, 3) := by decide +kernel
theorem d_X8_nearness_66 : decode mi_X8_nearness.2.1 66 = .ok (.aload_n 0, 1) := by decide +kernel
theorem d_X8_nearness_67 : decode mi_X8_nearness.2.1 67 = .ok (.iload 5, 2) := by decide +kernel
theorem d_X8_nearness_69 : decode mi_X8_nearness.2.1 69 = .ok (.putfield 241, 3) := by decide +kernel
theorem d_X8_nearness_72 : decode mi_X8_nearness.2.1 72 = .ok (.aload_n 0, 1) := by decide +kernel
theorem d_X8_nearness_73 : decode mi_X8_nearness.2.1 73 = .ok (.aload_n 0, 1) := by decide +kernel
theorem d_X8_nearness_74 : decode mi_X8_nearness.2.1 74 = .ok (.getfield 80, 3) := by decide +kernel
theorem d_X8_nearness_77 : decode mi_X8_nearness.2.1 77 = .ok (.iload_n 3, 1) := by decide +kernel
theorem d_X8_nearness_78 : decode mi_X8_nearness.2.1 78 = .ok (.iaload, 1) := by decide +kernel
theorem d_X8_nearness_79 : decode mi_X8_nearness.2.1 79 = .ok (.putfield 248, 3) := by decide +kernel
theorem d_X8_nearness_82 : decode mi_X8_nearness.2.1 82 = .ok (.iinc 4 1, 3) := by decide +kernel
theorem d_X8_nearness_85 : decode mi_X8_nearness.2.1 85 = .ok (.goto (-42), 3) := by decide +kernel
theorem d_X8_nearness_88 : decode mi_X8_nearness.2.1 88 = .ok (.iinc 3 1, 3) := by decide +kernel
theorem d_X8_nearness_91 : decode mi_X8_nearness.2.1 91 = .ok (.goto (-59), 3) := by decide +kernel
theorem d_X8_nearness_94 : decode mi_X8_nearness.2.1 94 = .ok (.aload_n 0, 1) := by decide +kernel
theorem d_X8_nearness_95 : decode mi_X8_nearness.2.1 95 = .ok (.getfield 241, 3) := by decide +kernel
theorem d_X8_nearness_98 : decode mi_X8_nearness.2.1 98 = .ok (.ifCond .le 7, 3) := by decide +kernel
theorem d_X8_nearness_101 : decode mi_X8_nearness.2.1 101 = .ok (.iconst 1, 1) := by decide +kernel
theorem d_X8_nearness_102 : decode mi_X8_nearness.2.1 102 = .ok (.goto 4, 3) := by decide +kernel
theorem d_X8_nearness_105 : decode mi_X8_nearness.2.1 105 = .ok (.iconst 0, 1) := by decide +kernel
theorem d_X8_nearness_106 : decode mi_X8_nearness.2.1 106 = .ok (.ireturn, 1) := by decide +kernel
theorem fl_X8_241 : FL RX8 241 8 49 28 := ⟨RX8, TX8, rfl, by decide, rfl, by decide +kernel, in_8⟩
theorem fl_X8_248 : FL RX8 248 8 49 27 := ⟨RX8, TX8, rfl, by decide, rfl, by decide +kernel, in_8⟩
theorem fw_8_27 : FW 8 49 27 .int := ⟨RX8, TX8, tyX8, rfl, rfl, by decide +kernel, tyX8_ok, nmX8⟩
theorem fw_8_28 : FW 8 49 28 .int := ⟨RX8, TX8, tyX8, rfl, rfl, by decide +kernel, tyX8_ok, nmX8⟩
theorem cw_X8_235 : CV RX8 235 mi_X8_overlaps 2 := by unfold CV; decide +kernel
theorem cw_X8_238 : CV RX8 238 mi_X8_keepsSides 0 := by unfold CV; decide +kernel
theorem cw_X8_244 : CV RX8 244 mi_X8_shared 2 := by unfold CV; decide +kernel
def f_X8_nearness_94 (σ : SS) : Option (Int32 × SS) := if (σ.1 25 0 28) ≤ 0 then (some ((0 : Int32), σ)) else (some ((1 : Int32), σ))
set_option maxRecDepth 20000 in
theorem t_X8_nearness_94 {d : Nat} {X : MX} {Y : MY} {b : Nat × Nat} {r : Int32} {σ' : SS} {σ : SS} (h : f_X8_nearness_94 σ = some (r, σ')) : WM (d + 5) X Y b mi_X8_nearness 94 [some (vR 25 0), none, none, none, none, none] [] σ (some (vI r), σ') := by
  rw [f_X8_nearness_94] at h
  refine r_aload_n (pc' := 95) d_X8_nearness_94 rfl rfl rfl ?_
  refine r_get (v := vI _) (pc' := 98) fl_X8_241 d_X8_nearness_95 rfl rfl (fun _ => trivial) rfl ?_
  refine r_if_le (pcT := 105) (pc' := 101) d_X8_nearness_98 rfl rfl h (fun _ h => ?_) (fun _ h => ?_)
  · refine r_iconst (pc' := 106) d_X8_nearness_105 ci_0 rfl ?_
    exact r_iret d_X8_nearness_106 rfl h
  · refine r_iconst (pc' := 102) d_X8_nearness_101 ci_1 rfl ?_
    refine r_goto (pc' := 106) d_X8_nearness_102 rfl ?_
    exact r_iret d_X8_nearness_106 rfl h
def f_X8_nearness_88 (K32 : Int32 → SS → Option (Int32 × SS)) (v3 : Int32) (σ : SS) : Option (Int32 × SS) := lt_ (v3 + (1 : Int32)) (fun x1 => K32 x1 σ)
set_option maxRecDepth 20000 in
theorem t_X8_nearness_88 {d : Nat} {X : MX} {Y : MY} {b : Nat × Nat} {r : Int32} {σ' : SS} {K32 : Int32 → SS → Option (Int32 × SS)} {v3 : Int32} (hK32 : ∀ (v3 : Int32) (σ : SS), K32 v3 σ = some (r, σ') → WM (d + 5) X Y b mi_X8_nearness 32 [some (vR 25 0), none, none, some (vI v3), none, none] [] σ (some (vI r), σ')) {σ : SS} (h : f_X8_nearness_88 K32 v3 σ = some (r, σ')) : WM (d + 5) X Y b mi_X8_nearness 88 [some (vR 25 0), none, none, some (vI v3), none, none] [] σ (some (vI r), σ') := by
  rw [f_X8_nearness_88] at h
  refine l_iinc (pc' := 91) d_X8_nearness_88 rfl ci_1 rfl rfl rfl h (fun x1 h => ?_)
  refine r_goto (pc' := 32) d_X8_nearness_91 rfl ?_
  exact WM.drop [] rfl (hK32 _ _ h)
def f_X8_nearness_82 (K32 : Int32 → SS → Option (Int32 × SS)) (K43 : Int32 → Int32 → SS → Option (Int32 × SS)) (v3 : Int32) (v4 : Int32) (σ : SS) : Option (Int32 × SS) := lt_ (v4 + (1 : Int32)) (fun x1 => K43 v3 x1 σ)
set_option maxRecDepth 20000 in
theorem t_X8_nearness_82 {d : Nat} {X : MX} {Y : MY} {b : Nat × Nat} {r : Int32} {σ' : SS} {K32 : Int32 → SS → Option (Int32 × SS)} {K43 : Int32 → Int32 → SS → Option (Int32 × SS)} {v3 : Int32} {v4 : Int32} (hK32 : ∀ (v3 : Int32) (σ : SS), K32 v3 σ = some (r, σ') → WM (d + 5) X Y b mi_X8_nearness 32 [some (vR 25 0), none, none, some (vI v3), none, none] [] σ (some (vI r), σ')) (hK43 : ∀ (v3 : Int32) (v4 : Int32) (σ : SS), K43 v3 v4 σ = some (r, σ') → WM (d + 5) X Y b mi_X8_nearness 43 [some (vR 25 0), none, none, some (vI v3), some (vI v4), none] [] σ (some (vI r), σ')) {σ : SS} (h : f_X8_nearness_82 K32 K43 v3 v4 σ = some (r, σ')) : WM (d + 5) X Y b mi_X8_nearness 82 [some (vR 25 0), none, none, some (vI v3), some (vI v4), none] [] σ (some (vI r), σ') := by
  rw [f_X8_nearness_82] at h
  refine l_iinc (pc' := 85) d_X8_nearness_82 rfl ci_1 rfl rfl rfl h (fun x1 h => ?_)
  refine r_goto (pc' := 43) d_X8_nearness_85 rfl ?_
  exact WM.drop [] rfl (hK43 _ _ _ h)
def f_X8_nearness_43 (K32 : Int32 → SS → Option (Int32 × SS)) : Nat → Int32 → Int32 → SS → Option (Int32 × SS)
  | 0, _, _, _ => none
  | n + 1, v3, v4, σ => if (σ.1 25 0 17) ≤ v4 then (f_X8_nearness_88 K32 v3 σ) else (cal (f_X8_shared v3 v4 σ) (fun x2 s1 => if x2 ≤ 0 then (f_X8_nearness_82 K32 (f_X8_nearness_43 K32 n) v3 v4 s1) else (lt_ (up s1 25 0 28 x2) (fun s3 => chk (inr v3 8) (lt_ (up s3 25 0 27 (s3.1 70 0 (ix v3))) (fun s4 => f_X8_nearness_82 K32 (f_X8_nearness_43 K32 n) v3 v4 s4))))))
set_option maxRecDepth 20000 in
theorem t_X8_nearness_43 {d : Nat} {X : MX} {Y : MY} {b : Nat × Nat} {r : Int32} {σ' : SS} {K32 : Int32 → SS → Option (Int32 × SS)} (hK32 : ∀ (v3 : Int32) (σ : SS), K32 v3 σ = some (r, σ') → WM (d + 5) X Y b mi_X8_nearness 32 [some (vR 25 0), none, none, some (vI v3), none, none] [] σ (some (vI r), σ')) : ∀ (n : Nat) (v3 : Int32) (v4 : Int32) (σ : SS), f_X8_nearness_43 K32 n v3 v4 σ = some (r, σ') → WM (d + 5) X Y b mi_X8_nearness 43 [some (vR 25 0), none, none, some (vI v3), some (vI v4), none] [] σ (some (vI r), σ') := by
  intro n
  induction n with
  | zero => intro _ _ σ h; cases h
  | succ n ih =>
    intro v3 v4 σ h
    rw [f_X8_nearness_43] at h
    refine r_iload (pc' := 45) d_X8_nearness_43 rfl rfl ?_
    refine r_aload_n (pc' := 46) d_X8_nearness_45 rfl rfl rfl ?_
    refine r_get (v := vI _) (pc' := 49) fl_X8_157 d_X8_nearness_46 rfl rfl (fun _ => trivial) rfl ?_
    refine r_icmp_ge (pcT := 88) (pc' := 52) d_X8_nearness_49 rfl rfl h (fun _ h => ?_) (fun _ h => ?_)
    · exact WM.drop [4] rfl (t_X8_nearness_88 hK32 h)
    · refine r_aload_n (pc' := 53) d_X8_nearness_52 rfl rfl rfl ?_
      refine r_iload_n (pc' := 54) d_X8_nearness_53 rfl rfl rfl ?_
      refine r_iload (pc' := 56) d_X8_nearness_54 rfl rfl ?_
      refine v2_i (mc := mi_X8_shared) (bc := (0, 0)) (b' := _) (pc' := 59) cw_X8_244 d_X8_nearness_56 rfl rfl rfl (Nat.zero_add _).symm (Nat.zero_add _).symm rfl h (fun _ _ e => t_X8_shared e) (fun x2 s1 h => ?_)
      refine r_istore (pc' := 61) d_X8_nearness_59 rfl rfl rfl ?_
      refine r_iload (pc' := 63) d_X8_nearness_61 rfl rfl ?_
      refine r_if_le (pcT := 82) (pc' := 66) d_X8_nearness_63 rfl rfl h (fun _ h => ?_) (fun _ h => ?_)
      · exact WM.drop [5] rfl (t_X8_nearness_82 hK32 ih h)
      · refine r_aload_n (pc' := 67) d_X8_nearness_66 rfl rfl rfl ?_
        refine r_iload (pc' := 69) d_X8_nearness_67 rfl rfl ?_
        refine l_put (k := 28) (pc' := 72) fl_X8_241 fw_8_28 rfl rfl d_X8_nearness_69 rfl (by decide) (by decide) rfl rfl h (fun s3 h => ?_)
        refine r_aload_n (pc' := 73) d_X8_nearness_72 rfl rfl rfl ?_
        refine r_aload_n (pc' := 74) d_X8_nearness_73 rfl rfl rfl ?_
        refine r_get (v := vR 70 _) (pc' := 77) fl_X8_80 d_X8_nearness_74 rfl rfl (fun g => Or.inl ⟨rfl, g.2⟩) rfl ?_
        refine r_iload_n (pc' := 78) d_X8_nearness_77 rfl rfl rfl ?_
        refine r_iaload (pc' := 79) d_X8_nearness_78 rfl (fun _ => rfl) rfl h (fun h => ?_)
        refine l_put (k := 27) (pc' := 82) fl_X8_248 fw_8_27 rfl rfl d_X8_nearness_79 rfl (by decide) (by decide) rfl rfl h (fun s4 h => ?_)
        exact WM.drop [5] rfl (t_X8_nearness_82 hK32 ih h)
def f_X8_nearness_32 : Nat → Int32 → SS → Option (Int32 × SS)
  | 0, _, _ => none
  | n + 1, v3, σ => if (σ.1 25 0 29) ≤ v3 then (f_X8_nearness_94  σ) else (f_X8_nearness_43 (f_X8_nearness_32 n) FU v3 (0 : Int32) σ)
set_option maxRecDepth 20000 in
theorem t_X8_nearness_32 {d : Nat} {X : MX} {Y : MY} {b : Nat × Nat} {r : Int32} {σ' : SS} : ∀ (n : Nat) (v3 : Int32) (σ : SS), f_X8_nearness_32 n v3 σ = some (r, σ') → WM (d + 5) X Y b mi_X8_nearness 32 [some (vR 25 0), none, none, some (vI v3), none, none] [] σ (some (vI r), σ') := by
  intro n
  induction n with
  | zero => intro _ σ h; cases h
  | succ n ih =>
    intro v3 σ h
    rw [f_X8_nearness_32] at h
    refine r_iload_n (pc' := 33) d_X8_nearness_32 rfl rfl rfl ?_
    refine r_aload_n (pc' := 34) d_X8_nearness_33 rfl rfl rfl ?_
    refine r_get (v := vI _) (pc' := 37) fl_X8_232 d_X8_nearness_34 rfl rfl (fun _ => trivial) rfl ?_
    refine r_icmp_ge (pcT := 94) (pc' := 40) d_X8_nearness_37 rfl rfl h (fun _ h => ?_) (fun _ h => ?_)
    · exact WM.drop [3] rfl (t_X8_nearness_94 h)
    · refine r_iconst (pc' := 41) d_X8_nearness_40 ci_0 rfl ?_
      refine r_istore (pc' := 43) d_X8_nearness_41 rfl rfl rfl ?_
      exact WM.drop [] rfl (t_X8_nearness_43 ih _ _ _ _ h)
def f_X8_nearness (v1 : Int32) (v2 : Int32) (σ : SS) : Option (Int32 × SS) := cal (f_X8_overlaps v1 v2 σ) (fun x2 s1 => if x2 = 0 then (cal (f_X8_takes v1 s1) (fun _ s3 => cal (f_X8_keepsSides  s3) (fun _ s4 => cal (f_X8_takes v2 s4) (fun _ s5 => lt_ (up s5 25 0 28 (0 : Int32)) (fun s6 => f_X8_nearness_32 FU (0 : Int32) s6))))) else (some ((2 : Int32), s1)))
set_option maxRecDepth 20000 in
theorem t_X8_nearness {d : Nat} {b : Nat × Nat} {v1 : Int32} {v2 : Int32} {σ : SS} {r : Int32} {σ' : SS} (h : f_X8_nearness v1 v2 σ = some (r, σ')) : MM (d + 5) b mi_X8_nearness [vR 25 0, vI v1, vI v2] σ (some (vI r), σ') := by
  refine MM.of (lv := [some (vR 25 0), some (vI v1), some (vI v2), none, none, none]) (by decide +kernel) rfl rfl (fun X Y => ?_)
  rw [f_X8_nearness] at h
  refine r_aload_n (pc' := 1) d_X8_nearness_0 rfl rfl rfl ?_
  refine r_iload_n (pc' := 2) d_X8_nearness_1 rfl rfl rfl ?_
  refine r_iload_n (pc' := 3) d_X8_nearness_2 rfl rfl rfl ?_
  refine v2_i (mc := mi_X8_overlaps) (bc := (0, 0)) (b' := _) (pc' := 6) cw_X8_235 d_X8_nearness_3 rfl rfl rfl (Nat.zero_add _).symm (Nat.zero_add _).symm rfl h (fun _ _ e => t_X8_overlaps e) (fun x2 s1 h => ?_)
  refine r_if_eq (pcT := 11) (pc' := 9) d_X8_nearness_6 rfl rfl h (fun _ h => ?_) (fun _ h => ?_)
  · refine r_aload_n (pc' := 12) d_X8_nearness_11 rfl rfl rfl ?_
    refine r_iload_n (pc' := 13) d_X8_nearness_12 rfl rfl rfl ?_
    refine v1_v (mc := mi_X8_takes) (bc := (0, 0)) (b' := _) (pc' := 16) cw_X8_201 d_X8_nearness_13 rfl rfl rfl (Nat.zero_add _).symm (Nat.zero_add _).symm rfl h (fun _ _ e => t_X8_takes e) (fun _ s3 h => ?_)
    refine r_aload_n (pc' := 17) d_X8_nearness_16 rfl rfl rfl ?_
    refine v0_v (mc := mi_X8_keepsSides) (bc := (0, 0)) (b' := _) (pc' := 20) cw_X8_238 d_X8_nearness_17 rfl rfl rfl (Nat.zero_add _).symm (Nat.zero_add _).symm rfl h (fun _ _ e => t_X8_keepsSides e) (fun _ s4 h => ?_)
    refine r_aload_n (pc' := 21) d_X8_nearness_20 rfl rfl rfl ?_
    refine r_iload_n (pc' := 22) d_X8_nearness_21 rfl rfl rfl ?_
    refine v1_v (mc := mi_X8_takes) (bc := (0, 0)) (b' := _) (pc' := 25) cw_X8_201 d_X8_nearness_22 rfl rfl rfl (Nat.zero_add _).symm (Nat.zero_add _).symm rfl h (fun _ _ e => t_X8_takes e) (fun _ s5 h => ?_)
    refine r_aload_n (pc' := 26) d_X8_nearness_25 rfl rfl rfl ?_
    refine r_iconst (pc' := 27) d_X8_nearness_26 ci_0 rfl ?_
    refine l_put (k := 28) (pc' := 30) fl_X8_241 fw_8_28 rfl rfl d_X8_nearness_27 rfl (by decide) (by decide) rfl rfl h (fun s6 h => ?_)
    refine r_iconst (pc' := 31) d_X8_nearness_30 ci_0 rfl ?_
    refine r_istore_n (pc' := 32) d_X8_nearness_31 rfl rfl rfl rfl ?_
    exact WM.drop [1, 2] rfl (t_X8_nearness_32 _ _ _ h)
  · refine r_iconst (pc' := 10) d_X8_nearness_9 ci_2 rfl ?_
    exact r_iret d_X8_nearness_10 rfl h
/-! OctagonYardModel.areTwo(II)Z -/
def mi_X8_areTwo : MI := (yX8_areTwo, cX8_areTwo, 3, (some .boolean))
theorem d_X8_areTwo_0 : decode mi_X8_areTwo.2.1 0 = .ok (.aload_n 0, 1) := by decide +kernel
theorem d_X8_areTwo_1 : decode mi_X8_areTwo.2.1 1 = .ok (.iload_n 1, 1) := by decide +kernel
theorem d_X8_areTwo_2 : decode mi_X8_areTwo.2.1 2 = .ok (.invokevirtual 192, 3) := by decide +kernel
theorem d_X8_areTwo_5 : decode mi_X8_areTwo.2.1 5 = .ok (.ifCond .eq 20, 3) := by decide +kernel
theorem d_X8_areTwo_8 : decode mi_X8_areTwo.2.1 8 = .ok (.aload_n 0, 1) := by decide +kernel
theorem d_X8_areTwo_9 : decode mi_X8_areTwo.2.1 9 = .ok (.iload_n 2, 1) := by decide +kernel
theorem d_X8_areTwo_10 : decode mi_X8_areTwo.2.1 10 = .ok (.invokevirtual 192, 3) := by decide +kernel
theorem d_X8_areTwo_13 : decode mi_X8_areTwo.2.1 13 = .ok (.ifCond .eq 12, 3) := by decide +kernel
theorem d_X8_areTwo_16 : decode mi_X8_areTwo.2.1 16 = .ok (.iload_n 1, 1) := by decide +kernel
theorem d_X8_areTwo_17 : decode mi_X8_areTwo.2.1 17 = .ok (.iload_n 2, 1) := by decide +kernel
theorem d_X8_areTwo_18 : decode mi_X8_areTwo.2.1 18 = .ok (.if_icmp .eq 7, 3) := by decide +kernel
theorem d_X8_areTwo_21 : decode mi_X8_areTwo.2.1 21 = .ok (.iconst 1, 1) := by decide +kernel
theorem d_X8_areTwo_22 : decode mi_X8_areTwo.2.1 22 = .ok (.goto 4, 3) := by decide +kernel
theorem d_X8_areTwo_25 : decode mi_X8_areTwo.2.1 25 = .ok (.iconst 0, 1) := by decide +kernel
theorem d_X8_areTwo_26 : decode mi_X8_areTwo.2.1 26 = .ok (.ireturn, 1) := by decide +kernel
def f_X8_areTwo (v1 : Int32) (v2 : Int32) (σ : SS) : Option (Int32 × SS) := cal (f_X8_isPiece v1 σ) (fun x2 s1 => if x2 = 0 then (some ((0 : Int32), s1)) else (cal (f_X8_isPiece v2 s1) (fun x4 s3 => if x4 = 0 then (some ((0 : Int32), s3)) else (if v1 = v2 then (some ((0 : Int32), s3)) else (some ((1 : Int32), s3))))))
set_option maxRecDepth 20000 in
theorem t_X8_areTwo {d : Nat} {b : Nat × Nat} {v1 : Int32} {v2 : Int32} {σ : SS} {r : Int32} {σ' : SS} (h : f_X8_areTwo v1 v2 σ = some (r, σ')) : MM (d + 2) b mi_X8_areTwo [vR 25 0, vI v1, vI v2] σ (some (vI r), σ') := by
  refine MM.of (lv := [some (vR 25 0), some (vI v1), some (vI v2)]) (by decide +kernel) rfl rfl (fun X Y => ?_)
  rw [f_X8_areTwo] at h
  refine r_aload_n (pc' := 1) d_X8_areTwo_0 rfl rfl rfl ?_
  refine r_iload_n (pc' := 2) d_X8_areTwo_1 rfl rfl rfl ?_
  refine v1_i (mc := mi_X8_isPiece) (bc := (0, 0)) (b' := _) (pc' := 5) cw_X8_192 d_X8_areTwo_2 rfl rfl rfl (Nat.zero_add _).symm (Nat.zero_add _).symm rfl h (fun _ _ e => t_X8_isPiece e) (fun x2 s1 h => ?_)
  refine r_if_eq (pcT := 25) (pc' := 8) d_X8_areTwo_5 rfl rfl h (fun _ h => ?_) (fun _ h => ?_)
  · refine r_iconst (pc' := 26) d_X8_areTwo_25 ci_0 rfl ?_
    exact r_zret d_X8_areTwo_26 rfl (Or.inl rfl) h
  · refine r_aload_n (pc' := 9) d_X8_areTwo_8 rfl rfl rfl ?_
    refine r_iload_n (pc' := 10) d_X8_areTwo_9 rfl rfl rfl ?_
    refine v1_i (mc := mi_X8_isPiece) (bc := (0, 0)) (b' := _) (pc' := 13) cw_X8_192 d_X8_areTwo_10 rfl rfl rfl (Nat.zero_add _).symm (Nat.zero_add _).symm rfl h (fun _ _ e => t_X8_isPiece e) (fun x4 s3 h => ?_)
    refine r_if_eq (pcT := 25) (pc' := 16) d_X8_areTwo_13 rfl rfl h (fun _ h => ?_) (fun _ h => ?_)
    · refine r_iconst (pc' := 26) d_X8_areTwo_25 ci_0 rfl ?_
      exact r_zret d_X8_areTwo_26 rfl (Or.inl rfl) h
    · refine r_iload_n (pc' := 17) d_X8_areTwo_16 rfl rfl rfl ?_
      refine r_iload_n (pc' := 18) d_X8_areTwo_17 rfl rfl rfl ?_
      refine r_icmp_eq (pcT := 25) (pc' := 21) d_X8_areTwo_18 rfl rfl h (fun _ h => ?_) (fun _ h => ?_)
      · refine r_iconst (pc' := 26) d_X8_areTwo_25 ci_0 rfl ?_
        exact r_zret d_X8_areTwo_26 rfl (Or.inl rfl) h
      · refine r_iconst (pc' := 22) d_X8_areTwo_21 ci_1 rfl ?_
        refine r_goto (pc' := 26) d_X8_areTwo_22 rfl ?_
        exact r_zret d_X8_areTwo_26 rfl (Or.inr rfl) h
/-! OctagonYardModel.near(II)I -/
def mi_X8_near : MI := (yX8_near, cX8_near, 3, (some .int))
theorem d_X8_near_0 : decode mi_X8_near.2.1 0 = .ok (.aload_n 0, 1) := by decide +kernel
theorem d_X8_near_1 : decode mi_X8_near.2.1 1 = .ok (.iload_n 1, 1) := by decide +kernel
theorem d_X8_near_2 : decode mi_X8_near.2.1 2 = .ok (.iload_n 2, 1) := by decide +kernel
theorem d_X8_near_3 : decode mi_X8_near.2.1 3 = .ok (.invokevirtual 251, 3) := by decide +kernel
theorem d_X8_near_6 : decode mi_X8_near.2.1 6 = .ok (.ifCond .eq 12, 3) := by decide +kernel
theorem d_X8_near_9 : decode mi_X8_near.2.1 9 = .ok (.aload_n 0, 1) := by decide +kernel
theorem d_X8_near_10 : decode mi_X8_near.2.1 10 = .ok (.iload_n 1, 1) := by decide +kernel
theorem d_X8_near_11 : decode mi_X8_near.2.1 11 = .ok (.iload_n 2, 1) := by decide +kernel
theorem d_X8_near_12 : decode mi_X8_near.2.1 12 = .ok (.invokevirtual 254, 3) := by decide +kernel
theorem d_X8_near_15 : decode mi_X8_near.2.1 15 = .ok (.goto 4, 3) := by decide +kernel
theorem d_X8_near_18 : decode mi_X8_near.2.1 18 = .ok (.iconst (-1), 1) := by decide +kernel
theorem d_X8_near_19 : decode mi_X8_near.2.1 19 = .ok (.ireturn, 1) := by decide +kernel
theorem cw_X8_251 : CV RX8 251 mi_X8_areTwo 2 := by unfold CV; decide +kernel
theorem cw_X8_254 : CV RX8 254 mi_X8_nearness 2 := by unfold CV; decide +kernel
def f_X8_near (v1 : Int32) (v2 : Int32) (σ : SS) : Option (Int32 × SS) := cal (f_X8_areTwo v1 v2 σ) (fun x2 s1 => if x2 = 0 then (some ((-1 : Int32), s1)) else (cal (f_X8_nearness v1 v2 s1) (fun x4 s3 => some (x4, s3))))
set_option maxRecDepth 20000 in
theorem t_X8_near {d : Nat} {b : Nat × Nat} {v1 : Int32} {v2 : Int32} {σ : SS} {r : Int32} {σ' : SS} (h : f_X8_near v1 v2 σ = some (r, σ')) : MM (d + 6) b mi_X8_near [vR 25 0, vI v1, vI v2] σ (some (vI r), σ') := by
  refine MM.of (lv := [some (vR 25 0), some (vI v1), some (vI v2)]) (by decide +kernel) rfl rfl (fun X Y => ?_)
  rw [f_X8_near] at h
  refine r_aload_n (pc' := 1) d_X8_near_0 rfl rfl rfl ?_
  refine r_iload_n (pc' := 2) d_X8_near_1 rfl rfl rfl ?_
  refine r_iload_n (pc' := 3) d_X8_near_2 rfl rfl rfl ?_
  refine v2_i (mc := mi_X8_areTwo) (bc := (0, 0)) (b' := _) (pc' := 6) cw_X8_251 d_X8_near_3 rfl rfl rfl (Nat.zero_add _).symm (Nat.zero_add _).symm rfl h (fun _ _ e => t_X8_areTwo e) (fun x2 s1 h => ?_)
  refine r_if_eq (pcT := 18) (pc' := 9) d_X8_near_6 rfl rfl h (fun _ h => ?_) (fun _ h => ?_)
  · refine r_iconst (pc' := 19) d_X8_near_18 ci_m1 rfl ?_
    exact r_iret d_X8_near_19 rfl h
  · refine r_aload_n (pc' := 10) d_X8_near_9 rfl rfl rfl ?_
    refine r_iload_n (pc' := 11) d_X8_near_10 rfl rfl rfl ?_
    refine r_iload_n (pc' := 12) d_X8_near_11 rfl rfl rfl ?_
    refine v2_i (mc := mi_X8_nearness) (bc := (0, 0)) (b' := _) (pc' := 15) cw_X8_254 d_X8_near_12 rfl rfl rfl (Nat.zero_add _).symm (Nat.zero_add _).symm rfl h (fun _ _ e => t_X8_nearness e) (fun x4 s3 h => ?_)
    refine r_goto (pc' := 19) d_X8_near_15 rfl ?_
    exact r_iret d_X8_near_19 rfl h
/-! OctagonYardModel.touch(III)I -/
def mi_X8_touch : MI := (yX8_touch, cX8_touch, 4, (some .int))
theorem d_X8_touch_0 : decode mi_X8_touch.2.1 0 = .ok (.aload_n 0, 1) := by decide +kernel
theorem d_X8_touch_1 : decode mi_X8_touch.2.1 1 = .ok (.iload_n 1, 1) := by decide +kernel
theorem d_X8_touch_2 : decode mi_X8_touch.2.1 2 = .ok (.iload_n 2, 1) := by decide +kernel
theorem d_X8_touch_3 : decode mi_X8_touch.2.1 3 = .ok (.invokevirtual 251, 3) := by decide +kernel
theorem d_X8_touch_6 : decode mi_X8_touch.2.1 6 = .ok (.ifCond .eq 13, 3) := by decide +kernel
theorem d_X8_touch_9 : decode mi_X8_touch.2.1 9 = .ok (.iload_n 3, 1) := by decide +kernel
theorem d_X8_touch_10 : decode mi_X8_touch.2.1 10 = .ok (.i2l, 1) := by decide +kernel
theorem d_X8_touch_11 : decode mi_X8_touch.2.1 11 = .ok (.lconst 0, 1) := by decide +kernel
theorem d_X8_touch_12 : decode mi_X8_touch.2.1 12 = .ok (.lconst 1, 1) := by decide +kernel
theorem d_X8_touch_13 : decode mi_X8_touch.2.1 13 = .ok (.invokestatic 139, 3) := by decide +kernel
theorem d_X8_touch_16 : decode mi_X8_touch.2.1 16 = .ok (.ifCond .ne 5, 3) := by decide +kernel
theorem d_X8_touch_19 : decode mi_X8_touch.2.1 19 = .ok (.iconst (-1), 1) := by decide +kernel
theorem d_X8_touch_20 : decode mi_X8_touch.2.1 20 = .ok (.ireturn, 1) := by decide +kernel
theorem d_X8_touch_21 : decode mi_X8_touch.2.1 21 = .ok (.aload_n 0, 1) := by decide +kernel
theorem d_X8_touch_22 : decode mi_X8_touch.2.1 22 = .ok (.iload_n 1, 1) := by decide +kernel
theorem d_X8_touch_23 : decode mi_X8_touch.2.1 23 = .ok (.iload_n 2, 1) := by decide +kernel
theorem d_X8_touch_24 : decode mi_X8_touch.2.1 24 = .ok (.invokevirtual 254, 3) := by decide +kernel
theorem d_X8_touch_27 : decode mi_X8_touch.2.1 27 = .ok (.iconst 1, 1) := by decide +kernel
theorem d_X8_touch_28 : decode mi_X8_touch.2.1 28 = .ok (.if_icmp .eq 8, 3) := by decide +kernel
theorem d_X8_touch_31 : decode mi_X8_touch.2.1 31 = .ok (.bipush (-4), 2) := by decide +kernel
theorem d_X8_touch_33 : decode mi_X8_touch.2.1 33 = .ok (.goto 18, 3) := by decide +kernel
theorem d_X8_touch_36 : decode mi_X8_touch.2.1 36 = .ok (.iload_n 3, 1) := by decide +kernel
theorem d_X8_touch_37 : decode mi_X8_touch.2.1 37 = .ok (.ifCond .ne 10, 3) := by decide +kernel
theorem d_X8_touch_40 : decode mi_X8_touch.2.1 40 = .ok (.aload_n 0, 1) := by decide +kernel
theorem d_X8_touch_41 : decode mi_X8_touch.2.1 41 = .ok (.getfield 248, 3) := by decide +kernel
theorem d_X8_touch_44 : decode mi_X8_touch.2.1 44 = .ok (.goto 7, 3) := by decide +kernel
theorem d_X8_touch_47 : decode mi_X8_touch.2.1 47 = .ok (.aload_n 0, 1) := by decide +kernel
theorem d_X8_touch_48 : decode mi_X8_touch.2.1 48 = .ok (.getfield 241, 3) := by decide +kernel
theorem d_X8_touch_51 : decode mi_X8_touch.2.1 51 = .ok (.ireturn, 1) := by decide +kernel
def f_X8_touch (v1 : Int32) (v2 : Int32) (v3 : Int32) (σ : SS) : Option (Int32 × SS) := cal (f_X8_areTwo v1 v2 σ) (fun x2 s1 => if x2 = 0 then (some ((-1 : Int32), s1)) else (cal (f_X8_in (Int32.toInt64 v3) (0 : Int64) (1 : Int64) s1) (fun x4 s3 => if x4 = 0 then (some ((-1 : Int32), s3)) else (cal (f_X8_nearness v1 v2 s3) (fun x6 s5 => if x6 = (1 : Int32) then (if v3 = 0 then (some ((s5.1 25 0 27), s5)) else (some ((s5.1 25 0 28), s5))) else (some ((-4 : Int32), s5)))))))
set_option maxRecDepth 20000 in
theorem t_X8_touch {d : Nat} {b : Nat × Nat} {v1 : Int32} {v2 : Int32} {v3 : Int32} {σ : SS} {r : Int32} {σ' : SS} (h : f_X8_touch v1 v2 v3 σ = some (r, σ')) : MM (d + 6) b mi_X8_touch [vR 25 0, vI v1, vI v2, vI v3] σ (some (vI r), σ') := by
  refine MM.of (lv := [some (vR 25 0), some (vI v1), some (vI v2), some (vI v3)]) (by decide +kernel) rfl rfl (fun X Y => ?_)
  rw [f_X8_touch] at h
  refine r_aload_n (pc' := 1) d_X8_touch_0 rfl rfl rfl ?_
  refine r_iload_n (pc' := 2) d_X8_touch_1 rfl rfl rfl ?_
  refine r_iload_n (pc' := 3) d_X8_touch_2 rfl rfl rfl ?_
  refine v2_i (mc := mi_X8_areTwo) (bc := (0, 0)) (b' := _) (pc' := 6) cw_X8_251 d_X8_touch_3 rfl rfl rfl (Nat.zero_add _).symm (Nat.zero_add _).symm rfl h (fun _ _ e => t_X8_areTwo e) (fun x2 s1 h => ?_)
  refine r_if_eq (pcT := 19) (pc' := 9) d_X8_touch_6 rfl rfl h (fun _ h => ?_) (fun _ h => ?_)
  · refine r_iconst (pc' := 20) d_X8_touch_19 ci_m1 rfl ?_
    exact r_iret d_X8_touch_20 rfl h
  · refine r_iload_n (pc' := 10) d_X8_touch_9 rfl rfl rfl ?_
    refine r_i2l (pc' := 11) d_X8_touch_10 rfl ?_
    refine r_lconst (pc' := 12) (x := 0) d_X8_touch_11 rfl rfl ?_
    refine r_lconst (pc' := 13) (x := 1) d_X8_touch_12 rfl rfl ?_
    refine s3_i (mc := mi_X8_in) (bc := (0, 0)) (b' := _) (pc' := 16) cw_X8_139 d_X8_touch_13 rfl (Nat.zero_add _).symm (Nat.zero_add _).symm rfl h (fun _ _ e => t_X8_in e) (fun x4 s3 h => ?_)
    refine r_if_ne (pcT := 21) (pc' := 19) d_X8_touch_16 rfl rfl h (fun _ h => ?_) (fun _ h => ?_)
    · refine r_iconst (pc' := 20) d_X8_touch_19 ci_m1 rfl ?_
      exact r_iret d_X8_touch_20 rfl h
    · refine r_aload_n (pc' := 22) d_X8_touch_21 rfl rfl rfl ?_
      refine r_iload_n (pc' := 23) d_X8_touch_22 rfl rfl rfl ?_
      refine r_iload_n (pc' := 24) d_X8_touch_23 rfl rfl rfl ?_
      refine v2_i (mc := mi_X8_nearness) (bc := (0, 0)) (b' := _) (pc' := 27) cw_X8_254 d_X8_touch_24 rfl rfl rfl (Nat.zero_add _).symm (Nat.zero_add _).symm rfl h (fun _ _ e => t_X8_nearness e) (fun x6 s5 h => ?_)
      refine r_iconst (pc' := 28) d_X8_touch_27 ci_1 rfl ?_
      refine r_icmp_eq (pcT := 36) (pc' := 31) d_X8_touch_28 rfl rfl h (fun _ h => ?_) (fun _ h => ?_)
      · refine r_iload_n (pc' := 37) d_X8_touch_36 rfl rfl rfl ?_
        refine r_if_ne (pcT := 47) (pc' := 40) d_X8_touch_37 rfl rfl h (fun _ h => ?_) (fun _ h => ?_)
        · refine r_aload_n (pc' := 41) d_X8_touch_40 rfl rfl rfl ?_
          refine r_get (v := vI _) (pc' := 44) fl_X8_248 d_X8_touch_41 rfl rfl (fun _ => trivial) rfl ?_
          refine r_goto (pc' := 51) d_X8_touch_44 rfl ?_
          exact r_iret d_X8_touch_51 rfl h
        · refine r_aload_n (pc' := 48) d_X8_touch_47 rfl rfl rfl ?_
          refine r_get (v := vI _) (pc' := 51) fl_X8_241 d_X8_touch_48 rfl rfl (fun _ => trivial) rfl ?_
          exact r_iret d_X8_touch_51 rfl h
      · refine r_bipush (pc' := 33) d_X8_touch_31 cb_m4 rfl ?_
        refine r_goto (pc' := 51) d_X8_touch_33 rfl ?_
        exact r_iret d_X8_touch_51 rfl h
/-! OctagonYardModel.rule(IIII)I -/
def mi_X8_rule : MI := (yX8_rule, cX8_rule, 5, (some .int))
theorem d_X8_rule_0 : decode mi_X8_rule.2.1 0 = .ok (.iload_n 1, 1) := by decide +kernel
theorem d_X8_rule_1 : decode mi_X8_rule.2.1 1 = .ok (.i2l, 1) := by decide +kernel
theorem d_X8_rule_2 : decode mi_X8_rule.2.1 2 = .ok (.lconst 0, 1) := by decide +kernel
theorem d_X8_rule_3 : decode mi_X8_rule.2.1 3 = .ok (.ldc2_w 257, 3) := by decide +kernel
theorem d_X8_rule_6 : decode mi_X8_rule.2.1 6 = .ok (.invokestatic 139, 3) := by decide +kernel
theorem d_X8_rule_9 : decode mi_X8_rule.2.1 9 = .ok (.ifCond .eq 40, 3) := by decide +kernel
theorem d_X8_rule_12 : decode mi_X8_rule.2.1 12 = .ok (.iload_n 2, 1) := by decide +kernel
theorem d_X8_rule_13 : decode mi_X8_rule.2.1 13 = .ok (.i2l, 1) := by decide +kernel
theorem d_X8_rule_14 : decode mi_X8_rule.2.1 14 = .ok (.lconst 0, 1) := by decide +kernel
theorem d_X8_rule_15 : decode mi_X8_rule.2.1 15 = .ok (.ldc2_w 257, 3) := by decide +kernel
theorem d_X8_rule_18 : decode mi_X8_rule.2.1 18 = .ok (.invokestatic 139, 3) := by decide +kernel
theorem d_X8_rule_21 : decode mi_X8_rule.2.1 21 = .ok (.ifCond .eq 28, 3) := by decide +kernel
theorem d_X8_rule_24 : decode mi_X8_rule.2.1 24 = .ok (.iload_n 3, 1) := by decide +kernel
theorem d_X8_rule_25 : decode mi_X8_rule.2.1 25 = .ok (.i2l, 1) := by decide +kernel
theorem d_X8_rule_26 : decode mi_X8_rule.2.1 26 = .ok (.lconst 1, 1) := by decide +kernel
theorem d_X8_rule_27 : decode mi_X8_rule.2.1 27 = .ok (.ldc2_w 259, 3) := by decide +kernel
theorem d_X8_rule_30 : decode mi_X8_rule.2.1 30 = .ok (.invokestatic 139, 3) := by decide +kernel
theorem d_X8_rule_33 : decode mi_X8_rule.2.1 33 = .ok (.ifCond .eq 16, 3) := by decide +kernel
theorem d_X8_rule_36 : decode mi_X8_rule.2.1 36 = .ok (.iload 4, 2) := by decide +kernel
theorem d_X8_rule_38 : decode mi_X8_rule.2.1 38 = .ok (.i2l, 1) := by decide +kernel
theorem d_X8_rule_39 : decode mi_X8_rule.2.1 39 = .ok (.lconst 0, 1) := by decide +kernel
theorem d_X8_rule_40 : decode mi_X8_rule.2.1 40 = .ok (.ldc2_w 208, 3) := by decide +kernel
theorem d_X8_rule_43 : decode mi_X8_rule.2.1 43 = .ok (.invokestatic 139, 3) := by decide +kernel
theorem d_X8_rule_46 : decode mi_X8_rule.2.1 46 = .ok (.ifCond .ne 5, 3) := by decide +kernel
theorem d_X8_rule_49 : decode mi_X8_rule.2.1 49 = .ok (.iconst (-1), 1) := by decide +kernel
theorem d_X8_rule_50 : decode mi_X8_rule.2.1 50 = .ok (.ireturn, 1) := by decide +kernel
theorem d_X8_rule_51 : decode mi_X8_rule.2.1 51 = .ok (.aload_n 0, 1) := by decide +kernel
theorem d_X8_rule_52 : decode mi_X8_rule.2.1 52 = .ok (.getfield 261, 3) := by decide +kernel
theorem d_X8_rule_55 : decode mi_X8_rule.2.1 55 = .ok (.bipush 40, 2) := by decide +kernel
theorem d_X8_rule_57 : decode mi_X8_rule.2.1 57 = .ok (.if_icmp .ne 6, 3) := by decide +kernel
theorem d_X8_rule_60 : decode mi_X8_rule.2.1 60 = .ok (.bipush (-3), 2) := by decide +kernel
theorem d_X8_rule_62 : decode mi_X8_rule.2.1 62 = .ok (.ireturn, 1) := by decide +kernel
theorem d_X8_rule_63 : decode mi_X8_rule.2.1 63 = .ok (.aload_n 0, 1) := by decide +kernel
theorem d_X8_rule_64 : decode mi_X8_rule.2.1 64 = .ok (.getfield 95, 3) := by decide +kernel
theorem d_X8_rule_67 : decode mi_X8_rule.2.1 67 = .ok (.aload_n 0, 1) := by decide +kernel
theorem d_X8_rule_68 : decode mi_X8_rule.2.1 68 = .ok (.getfield 261, 3) := by decide +kernel
theorem d_X8_rule_71 : decode mi_X8_rule.2.1 71 = .ok (.iload_n 1, 1) := by decide +kernel
theorem d_X8_rule_72 : decode mi_X8_rule.2.1 72 = .ok (.iastore, 1) := by decide +kernel
theorem d_X8_rule_73 : decode mi_X8_rule.2.1 73 = .ok (.aload_n 0, 1) := by decide +kernel
theorem d_X8_rule_74 : decode mi_X8_rule.2.1 74 = .ok (.getfield 98, 3) := by decide +kernel
theorem d_X8_rule_77 : decode mi_X8_rule.2.1 77 = .ok (.aload_n 0, 1) := by decide +kernel
theorem d_X8_rule_78 : decode mi_X8_rule.2.1 78 = .ok (.getfield 261, 3) := by decide +kernel
theorem d_X8_rule_81 : decode mi_X8_rule.2.1 81 = .ok (.iload_n 2, 1) := by decide +kernel
theorem d_X8_rule_82 : decode mi_X8_rule.2.1 82 = .ok (.iastore, 1) := by decide +kernel
theorem d_X8_rule_83 : decode mi_X8_rule.2.1 83 = .ok (.aload_n 0, 1) := by decide +kernel
theorem d_X8_rule_84 : decode mi_X8_rule.2.1 84 = .ok (.getfield 101, 3) := by decide +kernel
theorem d_X8_rule_87 : decode mi_X8_rule.2.1 87 = .ok (.aload_n 0, 1) := by decide +kernel
theorem d_X8_rule_88 : decode mi_X8_rule.2.1 88 = .ok (.getfield 261, 3) := by decide +kernel
theorem d_X8_rule_91 : decode mi_X8_rule.2.1 91 = .ok (.iload_n 3, 1) := by decide +kernel
theorem d_X8_rule_92 : decode mi_X8_rule.2.1 92 = .ok (.iastore, 1) := by decide +kernel
theorem d_X8_rule_93 : decode mi_X8_rule.2.1 93 = .ok (.aload_n 0, 1) := by decide +kernel
theorem d_X8_rule_94 : decode mi_X8_rule.2.1 94 = .ok (.getfield 104, 3) := by decide +kernel
theorem d_X8_rule_97 : decode mi_X8_rule.2.1 97 = .ok (.aload_n 0, 1) := by decide +kernel
theorem d_X8_rule_98 : decode mi_X8_rule.2.1 98 = .ok (.getfield 261, 3) := by decide +kernel
theorem d_X8_rule_101 : decode mi_X8_rule.2.1 101 = .ok (.iload 4, 2) := by decide +kernel
theorem d_X8_rule_103 : decode mi_X8_rule.2.1 103 = .ok (.iastore, 1) := by decide +kernel
theorem d_X8_rule_104 : decode mi_X8_rule.2.1 104 = .ok (.aload_n 0, 1) := by decide +kernel
theorem d_X8_rule_105 : decode mi_X8_rule.2.1 105 = .ok (.dup, 1) := by decide +kernel
theorem d_X8_rule_106 : decode mi_X8_rule.2.1 106 = .ok (.getfield 261, 3) := by decide +kernel
theorem d_X8_rule_109 : decode mi_X8_rule.2.1 109 = .ok (.iconst 1, 1) := by decide +kernel
theorem d_X8_rule_110 : decode mi_X8_rule.2.1 110 = .ok (.iadd, 1) := by decide +kernel
theorem d_X8_rule_111 : decode mi_X8_rule.2.1 111 = .ok (.putfield 261, 3) := by decide +kernel
theorem d_X8_rule_114 : decode mi_X8_rule.2.1 114 = .ok (.aload_n 0, 1) := by decide +kernel
theorem d_X8_rule_115 : decode mi_X8_rule.2.1 115 = .ok (.getfield 261, 3) := by decide +kernel
theorem d_X8_rule_118 : decode mi_X8_rule.2.1 118 = .ok (.iconst 1, 1) := by decide +kernel
theorem d_X8_rule_119 : decode mi_X8_rule.2.1 119 = .ok (.isub, 1) := by decide +kernel
theorem d_X8_rule_120 : decode mi_X8_rule.2.1 120 = .ok (.ireturn, 1) := by decide +kernel
theorem fl_X8_95 : FL RX8 95 8 49 36 := ⟨RX8, TX8, rfl, by decide, rfl, by decide +kernel, in_8⟩
theorem fl_X8_98 : FL RX8 98 8 49 37 := ⟨RX8, TX8, rfl, by decide, rfl, by decide +kernel, in_8⟩
theorem fl_X8_101 : FL RX8 101 8 49 38 := ⟨RX8, TX8, rfl, by decide, rfl, by decide +kernel, in_8⟩
theorem fl_X8_104 : FL RX8 104 8 49 39 := ⟨RX8, TX8, rfl, by decide, rfl, by decide +kernel, in_8⟩
theorem fl_X8_261 : FL RX8 261 8 49 35 := ⟨RX8, TX8, rfl, by decide, rfl, by decide +kernel, in_8⟩
theorem fw_8_35 : FW 8 49 35 .int := ⟨RX8, TX8, tyX8, rfl, rfl, by decide +kernel, tyX8_ok, nmX8⟩
theorem k_X8_257 : Cond.constantLong RX8 257 (9) ∈ mtbl := by decide +kernel
theorem k_X8_259 : Cond.constantLong RX8 259 (99) ∈ mtbl := by decide +kernel
def f_X8_rule (v1 : Int32) (v2 : Int32) (v3 : Int32) (v4 : Int32) (σ : SS) : Option (Int32 × SS) := cal (f_X8_in (Int32.toInt64 v1) (0 : Int64) (9 : Int64) σ) (fun x2 s1 => if x2 = 0 then (some ((-1 : Int32), s1)) else (cal (f_X8_in (Int32.toInt64 v2) (0 : Int64) (9 : Int64) s1) (fun x4 s3 => if x4 = 0 then (some ((-1 : Int32), s3)) else (cal (f_X8_in (Int32.toInt64 v3) (1 : Int64) (99 : Int64) s3) (fun x6 s5 => if x6 = 0 then (some ((-1 : Int32), s5)) else (cal (f_X8_in (Int32.toInt64 v4) (0 : Int64) (7 : Int64) s5) (fun x8 s7 => if x8 = 0 then (some ((-1 : Int32), s7)) else (if (s7.1 25 0 35) = (40 : Int32) then (some ((-3 : Int32), s7)) else (chk (inr (s7.1 25 0 35) 40) (lt_ (up s7 76 0 (ix (s7.1 25 0 35)) v1) (fun s9 => chk (inr (s9.1 25 0 35) 40) (lt_ (up s9 77 0 (ix (s9.1 25 0 35)) v2) (fun s10 => chk (inr (s10.1 25 0 35) 40) (lt_ (up s10 78 0 (ix (s10.1 25 0 35)) v3) (fun s11 => chk (inr (s11.1 25 0 35) 40) (lt_ (up s11 79 0 (ix (s11.1 25 0 35)) v4) (fun s12 => lt_ (up s12 25 0 35 ((s12.1 25 0 35) + (1 : Int32))) (fun s13 => some (((s13.1 25 0 35) - (1 : Int32)), s13)))))))))))))))))))
set_option maxRecDepth 20000 in
theorem t_X8_rule {d : Nat} {b : Nat × Nat} {v1 : Int32} {v2 : Int32} {v3 : Int32} {v4 : Int32} {σ : SS} {r : Int32} {σ' : SS} (h : f_X8_rule v1 v2 v3 v4 σ = some (r, σ')) : MM (d + 1) b mi_X8_rule [vR 25 0, vI v1, vI v2, vI v3, vI v4] σ (some (vI r), σ') := by
  refine MM.of (lv := [some (vR 25 0), some (vI v1), some (vI v2), some (vI v3), some (vI v4)]) (by decide +kernel) rfl rfl (fun X Y => ?_)
  rw [f_X8_rule] at h
  refine r_iload_n (pc' := 1) d_X8_rule_0 rfl rfl rfl ?_
  refine r_i2l (pc' := 2) d_X8_rule_1 rfl ?_
  refine r_lconst (pc' := 3) (x := 0) d_X8_rule_2 rfl rfl ?_
  refine r_ldc2 (pc' := 6) k_X8_257 d_X8_rule_3 rfl ?_
  refine s3_i (mc := mi_X8_in) (bc := (0, 0)) (b' := _) (pc' := 9) cw_X8_139 d_X8_rule_6 rfl (Nat.zero_add _).symm (Nat.zero_add _).symm rfl h (fun _ _ e => t_X8_in e) (fun x2 s1 h => ?_)
  refine r_if_eq (pcT := 49) (pc' := 12) d_X8_rule_9 rfl rfl h (fun _ h => ?_) (fun _ h => ?_)
  · refine r_iconst (pc' := 50) d_X8_rule_49 ci_m1 rfl ?_
    exact r_iret d_X8_rule_50 rfl h
  · refine r_iload_n (pc' := 13) d_X8_rule_12 rfl rfl rfl ?_
    refine r_i2l (pc' := 14) d_X8_rule_13 rfl ?_
    refine r_lconst (pc' := 15) (x := 0) d_X8_rule_14 rfl rfl ?_
    refine r_ldc2 (pc' := 18) k_X8_257 d_X8_rule_15 rfl ?_
    refine s3_i (mc := mi_X8_in) (bc := (0, 0)) (b' := _) (pc' := 21) cw_X8_139 d_X8_rule_18 rfl (Nat.zero_add _).symm (Nat.zero_add _).symm rfl h (fun _ _ e => t_X8_in e) (fun x4 s3 h => ?_)
    refine r_if_eq (pcT := 49) (pc' := 24) d_X8_rule_21 rfl rfl h (fun _ h => ?_) (fun _ h => ?_)
    · refine r_iconst (pc' := 50) d_X8_rule_49 ci_m1 rfl ?_
      exact r_iret d_X8_rule_50 rfl h
    · refine r_iload_n (pc' := 25) d_X8_rule_24 rfl rfl rfl ?_
      refine r_i2l (pc' := 26) d_X8_rule_25 rfl ?_
      refine r_lconst (pc' := 27) (x := 1) d_X8_rule_26 rfl rfl ?_
      refine r_ldc2 (pc' := 30) k_X8_259 d_X8_rule_27 rfl ?_
      refine s3_i (mc := mi_X8_in) (bc := (0, 0)) (b' := _) (pc' := 33) cw_X8_139 d_X8_rule_30 rfl (Nat.zero_add _).symm (Nat.zero_add _).symm rfl h (fun _ _ e => t_X8_in e) (fun x6 s5 h => ?_)
      refine r_if_eq (pcT := 49) (pc' := 36) d_X8_rule_33 rfl rfl h (fun _ h => ?_) (fun _ h => ?_)
      · refine r_iconst (pc' := 50) d_X8_rule_49 ci_m1 rfl ?_
        exact r_iret d_X8_rule_50 rfl h
      · refine r_iload (pc' := 38) d_X8_rule_36 rfl rfl ?_
        refine r_i2l (pc' := 39) d_X8_rule_38 rfl ?_
        refine r_lconst (pc' := 40) (x := 0) d_X8_rule_39 rfl rfl ?_
        refine r_ldc2 (pc' := 43) k_X8_208 d_X8_rule_40 rfl ?_
        refine s3_i (mc := mi_X8_in) (bc := (0, 0)) (b' := _) (pc' := 46) cw_X8_139 d_X8_rule_43 rfl (Nat.zero_add _).symm (Nat.zero_add _).symm rfl h (fun _ _ e => t_X8_in e) (fun x8 s7 h => ?_)
        refine r_if_ne (pcT := 51) (pc' := 49) d_X8_rule_46 rfl rfl h (fun _ h => ?_) (fun _ h => ?_)
        · refine r_iconst (pc' := 50) d_X8_rule_49 ci_m1 rfl ?_
          exact r_iret d_X8_rule_50 rfl h
        · refine r_aload_n (pc' := 52) d_X8_rule_51 rfl rfl rfl ?_
          refine r_get (v := vI _) (pc' := 55) fl_X8_261 d_X8_rule_52 rfl rfl (fun _ => trivial) rfl ?_
          refine r_bipush (pc' := 57) d_X8_rule_55 cb_40 rfl ?_
          refine r_icmp_ne (pcT := 63) (pc' := 60) d_X8_rule_57 rfl rfl h (fun _ h => ?_) (fun _ h => ?_)
          · refine r_bipush (pc' := 62) d_X8_rule_60 cb_m3 rfl ?_
            exact r_iret d_X8_rule_62 rfl h
          · refine r_aload_n (pc' := 64) d_X8_rule_63 rfl rfl rfl ?_
            refine r_get (v := vR 76 _) (pc' := 67) fl_X8_95 d_X8_rule_64 rfl rfl (fun g => Or.inl ⟨rfl, g.2⟩) rfl ?_
            refine r_aload_n (pc' := 68) d_X8_rule_67 rfl rfl rfl ?_
            refine r_get (v := vI _) (pc' := 71) fl_X8_261 d_X8_rule_68 rfl rfl (fun _ => trivial) rfl ?_
            refine r_iload_n (pc' := 72) d_X8_rule_71 rfl rfl rfl ?_
            refine l_iastore (pc' := 73) d_X8_rule_72 rfl (fun _ => rfl) (by decide) (by decide) (fun _ => rfl) rfl h (fun s9 h => ?_)
            refine r_aload_n (pc' := 74) d_X8_rule_73 rfl rfl rfl ?_
            refine r_get (v := vR 77 _) (pc' := 77) fl_X8_98 d_X8_rule_74 rfl rfl (fun g => Or.inl ⟨rfl, g.2⟩) rfl ?_
            refine r_aload_n (pc' := 78) d_X8_rule_77 rfl rfl rfl ?_
            refine r_get (v := vI _) (pc' := 81) fl_X8_261 d_X8_rule_78 rfl rfl (fun _ => trivial) rfl ?_
            refine r_iload_n (pc' := 82) d_X8_rule_81 rfl rfl rfl ?_
            refine l_iastore (pc' := 83) d_X8_rule_82 rfl (fun _ => rfl) (by decide) (by decide) (fun _ => rfl) rfl h (fun s10 h => ?_)
            refine r_aload_n (pc' := 84) d_X8_rule_83 rfl rfl rfl ?_
            refine r_get (v := vR 78 _) (pc' := 87) fl_X8_101 d_X8_rule_84 rfl rfl (fun g => Or.inl ⟨rfl, g.2⟩) rfl ?_
            refine r_aload_n (pc' := 88) d_X8_rule_87 rfl rfl rfl ?_
            refine r_get (v := vI _) (pc' := 91) fl_X8_261 d_X8_rule_88 rfl rfl (fun _ => trivial) rfl ?_
            refine r_iload_n (pc' := 92) d_X8_rule_91 rfl rfl rfl ?_
            refine l_iastore (pc' := 93) d_X8_rule_92 rfl (fun _ => rfl) (by decide) (by decide) (fun _ => rfl) rfl h (fun s11 h => ?_)
            refine r_aload_n (pc' := 94) d_X8_rule_93 rfl rfl rfl ?_
            refine r_get (v := vR 79 _) (pc' := 97) fl_X8_104 d_X8_rule_94 rfl rfl (fun g => Or.inl ⟨rfl, g.2⟩) rfl ?_
            refine r_aload_n (pc' := 98) d_X8_rule_97 rfl rfl rfl ?_
            refine r_get (v := vI _) (pc' := 101) fl_X8_261 d_X8_rule_98 rfl rfl (fun _ => trivial) rfl ?_
            refine r_iload (pc' := 103) d_X8_rule_101 rfl rfl ?_
            refine l_iastore (pc' := 104) d_X8_rule_103 rfl (fun _ => rfl) (by decide) (by decide) (fun _ => rfl) rfl h (fun s12 h => ?_)
            refine r_aload_n (pc' := 105) d_X8_rule_104 rfl rfl rfl ?_
            refine r_dup (pc' := 106) d_X8_rule_105 rfl rfl ?_
            refine r_get (v := vI _) (pc' := 109) fl_X8_261 d_X8_rule_106 rfl rfl (fun _ => trivial) rfl ?_
            refine r_iconst (pc' := 110) d_X8_rule_109 ci_1 rfl ?_
            refine r_iadd (pc' := 111) d_X8_rule_110 rfl ?_
            refine l_put (k := 35) (pc' := 114) fl_X8_261 fw_8_35 rfl rfl d_X8_rule_111 rfl (by decide) (by decide) rfl rfl h (fun s13 h => ?_)
            refine r_aload_n (pc' := 115) d_X8_rule_114 rfl rfl rfl ?_
            refine r_get (v := vI _) (pc' := 118) fl_X8_261 d_X8_rule_115 rfl rfl (fun _ => trivial) rfl ?_
            refine r_iconst (pc' := 119) d_X8_rule_118 ci_1 rfl ?_
            refine r_isub (pc' := 120) d_X8_rule_119 rfl ?_
            exact r_iret d_X8_rule_120 rfl h
/-! OctagonYardModel.pack(IZ)I -/
def mi_X8_pack : MI := (yX8_pack, cX8_pack, 4, (some .int))
theorem d_X8_pack_0 : decode mi_X8_pack.2.1 0 = .ok (.iload_n 1, 1) := by decide +kernel
theorem d_X8_pack_1 : decode mi_X8_pack.2.1 1 = .ok (.i2l, 1) := by decide +kernel
theorem d_X8_pack_2 : decode mi_X8_pack.2.1 2 = .ok (.lconst 0, 1) := by decide +kernel
theorem d_X8_pack_3 : decode mi_X8_pack.2.1 3 = .ok (.ldc2_w 208, 3) := by decide +kernel
theorem d_X8_pack_6 : decode mi_X8_pack.2.1 6 = .ok (.invokestatic 139, 3) := by decide +kernel
theorem d_X8_pack_9 : decode mi_X8_pack.2.1 9 = .ok (.ifCond .eq 11, 3) := by decide +kernel
theorem d_X8_pack_12 : decode mi_X8_pack.2.1 12 = .ok (.iload_n 1, 1) := by decide +kernel
theorem d_X8_pack_13 : decode mi_X8_pack.2.1 13 = .ok (.ifCond .ne 9, 3) := by decide +kernel
theorem d_X8_pack_16 : decode mi_X8_pack.2.1 16 = .ok (.iload_n 2, 1) := by decide +kernel
theorem d_X8_pack_17 : decode mi_X8_pack.2.1 17 = .ok (.ifCond .ne 5, 3) := by decide +kernel
theorem d_X8_pack_20 : decode mi_X8_pack.2.1 20 = .ok (.iconst (-1), 1) := by decide +kernel
theorem d_X8_pack_21 : decode mi_X8_pack.2.1 21 = .ok (.ireturn, 1) := by decide +kernel
theorem d_X8_pack_22 : decode mi_X8_pack.2.1 22 = .ok (.aload_n 0, 1) := by decide +kernel
theorem d_X8_pack_23 : decode mi_X8_pack.2.1 23 = .ok (.getfield 107, 3) := by decide +kernel
theorem d_X8_pack_26 : decode mi_X8_pack.2.1 26 = .ok (.iload_n 1, 1) := by decide +kernel
theorem d_X8_pack_27 : decode mi_X8_pack.2.1 27 = .ok (.baload, 1) := by decide +kernel
theorem d_X8_pack_28 : decode mi_X8_pack.2.1 28 = .ok (.ifCond .eq 7, 3) := by decide +kernel
theorem d_X8_pack_31 : decode mi_X8_pack.2.1 31 = .ok (.iconst 1, 1) := by decide +kernel
theorem d_X8_pack_32 : decode mi_X8_pack.2.1 32 = .ok (.goto 4, 3) := by decide +kernel
theorem d_X8_pack_35 : decode mi_X8_pack.2.1 35 = .ok (.iconst 0, 1) := by decide +kernel
theorem d_X8_pack_36 : decode mi_X8_pack.2.1 36 = .ok (.istore_n 3, 1) := by decide +kernel
theorem d_X8_pack_37 : decode mi_X8_pack.2.1 37 = .ok (.aload_n 0, 1) := by decide +kernel
theorem d_X8_pack_38 : decode mi_X8_pack.2.1 38 = .ok (.getfield 107, 3) := by decide +kernel
theorem d_X8_pack_41 : decode mi_X8_pack.2.1 41 = .ok (.iload_n 1, 1) := by decide +kernel
theorem d_X8_pack_42 : decode mi_X8_pack.2.1 42 = .ok (.iload_n 2, 1) := by decide +kernel
theorem d_X8_pack_43 : decode mi_X8_pack.2.1 43 = .ok (.bastore, 1) := by decide +kernel
theorem d_X8_pack_44 : decode mi_X8_pack.2.1 44 = .ok (.iload_n 3, 1) := by decide +kernel
theorem d_X8_pack_45 : decode mi_X8_pack.2.1 45 = .ok (.ireturn, 1) := by decide +kernel
theorem fl_X8_107 : FL RX8 107 8 49 40 := ⟨RX8, TX8, rfl, by decide, rfl, by decide +kernel, in_8⟩
def f_X8_pack_36 (v1 : Int32) (v2 : Int32) (u0 : Int32) (σ : SS) : Option (Int32 × SS) := chk (v2 = 0 ∨ v2 = 1) (chk (inr v1 8) (lt_ (up σ 80 0 (ix v1) v2) (fun s1 => some (u0, s1))))
set_option maxRecDepth 20000 in
theorem t_X8_pack_36 {d : Nat} {X : MX} {Y : MY} {b : Nat × Nat} {r : Int32} {σ' : SS} {v1 : Int32} {v2 : Int32} {u0 : Int32} {σ : SS} (h : f_X8_pack_36 v1 v2 u0 σ = some (r, σ')) : WM (d + 1) X Y b mi_X8_pack 36 [some (vR 25 0), some (vI v1), some (vI v2), none] [vI u0] σ (some (vI r), σ') := by
  rw [f_X8_pack_36] at h
  refine r_istore_n (pc' := 37) d_X8_pack_36 rfl rfl rfl rfl ?_
  refine r_aload_n (pc' := 38) d_X8_pack_37 rfl rfl rfl ?_
  refine r_get (v := vR 80 _) (pc' := 41) fl_X8_107 d_X8_pack_38 rfl rfl (fun g => Or.inl ⟨rfl, g.2⟩) rfl ?_
  refine r_iload_n (pc' := 42) d_X8_pack_41 rfl rfl rfl ?_
  refine r_iload_n (pc' := 43) d_X8_pack_42 rfl rfl rfl ?_
  obtain ⟨z2, h⟩ := chk_t h
  refine l_bastore (pc' := 44) d_X8_pack_43 rfl (fun _ => rfl) (by decide) (by decide) (fun _ => rfl) z2 rfl h (fun s1 h => ?_)
  refine r_iload_n (pc' := 45) d_X8_pack_44 rfl rfl rfl ?_
  exact r_iret d_X8_pack_45 rfl h
def f_X8_pack_22 (v1 : Int32) (v2 : Int32) (σ : SS) : Option (Int32 × SS) := chk (inr v1 8) (if (σ.1 80 0 (ix v1)) = 0 then (f_X8_pack_36 v1 v2 (0 : Int32) σ) else (f_X8_pack_36 v1 v2 (1 : Int32) σ))
set_option maxRecDepth 20000 in
theorem t_X8_pack_22 {d : Nat} {X : MX} {Y : MY} {b : Nat × Nat} {r : Int32} {σ' : SS} {v1 : Int32} {v2 : Int32} {σ : SS} (h : f_X8_pack_22 v1 v2 σ = some (r, σ')) : WM (d + 1) X Y b mi_X8_pack 22 [some (vR 25 0), some (vI v1), some (vI v2), none] [] σ (some (vI r), σ') := by
  rw [f_X8_pack_22] at h
  refine r_aload_n (pc' := 23) d_X8_pack_22 rfl rfl rfl ?_
  refine r_get (v := vR 80 _) (pc' := 26) fl_X8_107 d_X8_pack_23 rfl rfl (fun g => Or.inl ⟨rfl, g.2⟩) rfl ?_
  refine r_iload_n (pc' := 27) d_X8_pack_26 rfl rfl rfl ?_
  refine r_baload (pc' := 28) d_X8_pack_27 rfl (fun _ => rfl) rfl h (fun h => ?_)
  refine r_if_eq (pcT := 35) (pc' := 31) d_X8_pack_28 rfl rfl h (fun _ h => ?_) (fun _ h => ?_)
  · refine r_iconst (pc' := 36) d_X8_pack_35 ci_0 rfl ?_
    exact WM.drop [] rfl (t_X8_pack_36 h)
  · refine r_iconst (pc' := 32) d_X8_pack_31 ci_1 rfl ?_
    refine r_goto (pc' := 36) d_X8_pack_32 rfl ?_
    exact WM.drop [] rfl (t_X8_pack_36 h)
def f_X8_pack (v1 : Int32) (v2 : Int32) (σ : SS) : Option (Int32 × SS) := cal (f_X8_in (Int32.toInt64 v1) (0 : Int64) (7 : Int64) σ) (fun x2 s1 => if x2 = 0 then (some ((-1 : Int32), s1)) else (if v1 = 0 then (if v2 = 0 then (some ((-1 : Int32), s1)) else (f_X8_pack_22 v1 v2 s1)) else (f_X8_pack_22 v1 v2 s1)))
set_option maxRecDepth 20000 in
theorem t_X8_pack {d : Nat} {b : Nat × Nat} {v1 : Int32} {v2 : Int32} {σ : SS} {r : Int32} {σ' : SS} (h : f_X8_pack v1 v2 σ = some (r, σ')) : MM (d + 1) b mi_X8_pack [vR 25 0, vI v1, vI v2] σ (some (vI r), σ') := by
  refine MM.of (lv := [some (vR 25 0), some (vI v1), some (vI v2), none]) (by decide +kernel) rfl rfl (fun X Y => ?_)
  rw [f_X8_pack] at h
  refine r_iload_n (pc' := 1) d_X8_pack_0 rfl rfl rfl ?_
  refine r_i2l (pc' := 2) d_X8_pack_1 rfl ?_
  refine r_lconst (pc' := 3) (x := 0) d_X8_pack_2 rfl rfl ?_
  refine r_ldc2 (pc' := 6) k_X8_208 d_X8_pack_3 rfl ?_
  refine s3_i (mc := mi_X8_in) (bc := (0, 0)) (b' := _) (pc' := 9) cw_X8_139 d_X8_pack_6 rfl (Nat.zero_add _).symm (Nat.zero_add _).symm rfl h (fun _ _ e => t_X8_in e) (fun x2 s1 h => ?_)
  refine r_if_eq (pcT := 20) (pc' := 12) d_X8_pack_9 rfl rfl h (fun _ h => ?_) (fun _ h => ?_)
  · refine r_iconst (pc' := 21) d_X8_pack_20 ci_m1 rfl ?_
    exact r_iret d_X8_pack_21 rfl h
  · refine r_iload_n (pc' := 13) d_X8_pack_12 rfl rfl rfl ?_
    refine r_if_ne (pcT := 22) (pc' := 16) d_X8_pack_13 rfl rfl h (fun _ h => ?_) (fun _ h => ?_)
    · refine r_iload_n (pc' := 17) d_X8_pack_16 rfl rfl rfl ?_
      refine r_if_ne (pcT := 22) (pc' := 20) d_X8_pack_17 rfl rfl h (fun _ h => ?_) (fun _ h => ?_)
      · refine r_iconst (pc' := 21) d_X8_pack_20 ci_m1 rfl ?_
        exact r_iret d_X8_pack_21 rfl h
      · exact WM.drop [] rfl (t_X8_pack_22 h)
    · exact WM.drop [] rfl (t_X8_pack_22 h)
/-! OctagonYardModel.steps(II)I -/
def mi_X8_steps : MI := (yX8_steps, cX8_steps, 2, (some .int))
theorem d_X8_steps_0 : decode mi_X8_steps.2.1 0 = .ok (.iload_n 1, 1) := by decide +kernel
theorem d_X8_steps_1 : decode mi_X8_steps.2.1 1 = .ok (.iload_n 0, 1) := by decide +kernel
theorem d_X8_steps_2 : decode mi_X8_steps.2.1 2 = .ok (.if_icmp .ne 7, 3) := by decide +kernel
theorem d_X8_steps_5 : decode mi_X8_steps.2.1 5 = .ok (.iconst 0, 1) := by decide +kernel
theorem d_X8_steps_6 : decode mi_X8_steps.2.1 6 = .ok (.goto 27, 3) := by decide +kernel
theorem d_X8_steps_9 : decode mi_X8_steps.2.1 9 = .ok (.iload_n 1, 1) := by decide +kernel
theorem d_X8_steps_10 : decode mi_X8_steps.2.1 10 = .ok (.iload_n 0, 1) := by decide +kernel
theorem d_X8_steps_11 : decode mi_X8_steps.2.1 11 = .ok (.invokestatic 217, 3) := by decide +kernel
theorem d_X8_steps_14 : decode mi_X8_steps.2.1 14 = .ok (.if_icmp .ne 7, 3) := by decide +kernel
theorem d_X8_steps_17 : decode mi_X8_steps.2.1 17 = .ok (.iconst 1, 1) := by decide +kernel
theorem d_X8_steps_18 : decode mi_X8_steps.2.1 18 = .ok (.goto 15, 3) := by decide +kernel
theorem d_X8_steps_21 : decode mi_X8_steps.2.1 21 = .ok (.iload_n 1, 1) := by decide +kernel
theorem d_X8_steps_22 : decode mi_X8_steps.2.1 22 = .ok (.bipush 9, 2) := by decide +kernel
theorem d_X8_steps_24 : decode mi_X8_steps.2.1 24 = .ok (.if_icmp .ne 7, 3) := by decide +kernel
theorem d_X8_steps_27 : decode mi_X8_steps.2.1 27 = .ok (.iconst 2, 1) := by decide +kernel
theorem d_X8_steps_28 : decode mi_X8_steps.2.1 28 = .ok (.goto 5, 3) := by decide +kernel
theorem d_X8_steps_31 : decode mi_X8_steps.2.1 31 = .ok (.bipush (-4), 2) := by decide +kernel
theorem d_X8_steps_33 : decode mi_X8_steps.2.1 33 = .ok (.ireturn, 1) := by decide +kernel
def f_X8_steps (v0 : Int32) (v1 : Int32) (σ : SS) : Option (Int32 × SS) := if v1 = v0 then (some ((0 : Int32), σ)) else (cal (f_X8_family v0 σ) (fun x2 s1 => if v1 = x2 then (some ((1 : Int32), s1)) else (if v1 = (9 : Int32) then (some ((2 : Int32), s1)) else (some ((-4 : Int32), s1)))))
set_option maxRecDepth 20000 in
theorem t_X8_steps {d : Nat} {b : Nat × Nat} {v0 : Int32} {v1 : Int32} {σ : SS} {r : Int32} {σ' : SS} (h : f_X8_steps v0 v1 σ = some (r, σ')) : MM (d + 1) b mi_X8_steps [vI v0, vI v1] σ (some (vI r), σ') := by
  refine MM.of (lv := [some (vI v0), some (vI v1)]) (by decide +kernel) rfl rfl (fun X Y => ?_)
  rw [f_X8_steps] at h
  refine r_iload_n (pc' := 1) d_X8_steps_0 rfl rfl rfl ?_
  refine r_iload_n (pc' := 2) d_X8_steps_1 rfl rfl rfl ?_
  refine r_icmp_ne (pcT := 9) (pc' := 5) d_X8_steps_2 rfl rfl h (fun _ h => ?_) (fun _ h => ?_)
  · refine r_iconst (pc' := 6) d_X8_steps_5 ci_0 rfl ?_
    refine r_goto (pc' := 33) d_X8_steps_6 rfl ?_
    exact r_iret d_X8_steps_33 rfl h
  · refine r_iload_n (pc' := 10) d_X8_steps_9 rfl rfl rfl ?_
    refine r_iload_n (pc' := 11) d_X8_steps_10 rfl rfl rfl ?_
    refine s1_i (mc := mi_X8_family) (bc := (0, 0)) (b' := _) (pc' := 14) cw_X8_217 d_X8_steps_11 rfl (Nat.zero_add _).symm (Nat.zero_add _).symm rfl h (fun _ _ e => t_X8_family e) (fun x2 s1 h => ?_)
    refine r_icmp_ne (pcT := 21) (pc' := 17) d_X8_steps_14 rfl rfl h (fun _ h => ?_) (fun _ h => ?_)
    · refine r_iconst (pc' := 18) d_X8_steps_17 ci_1 rfl ?_
      refine r_goto (pc' := 33) d_X8_steps_18 rfl ?_
      exact r_iret d_X8_steps_33 rfl h
    · refine r_iload_n (pc' := 22) d_X8_steps_21 rfl rfl rfl ?_
      refine r_bipush (pc' := 24) d_X8_steps_22 cb_9 rfl ?_
      refine r_icmp_ne (pcT := 31) (pc' := 27) d_X8_steps_24 rfl rfl h (fun _ h => ?_) (fun _ h => ?_)
      · refine r_iconst (pc' := 28) d_X8_steps_27 ci_2 rfl ?_
        refine r_goto (pc' := 33) d_X8_steps_28 rfl ?_
        exact r_iret d_X8_steps_33 rfl h
      · refine r_bipush (pc' := 33) d_X8_steps_31 cb_m4 rfl ?_
        exact r_iret d_X8_steps_33 rfl h
/-! OctagonYardModel.rank(III)I -/
def mi_X8_rank : MI := (yX8_rank, cX8_rank, 6, (some .int))
theorem d_X8_rank_0 : decode mi_X8_rank.2.1 0 = .ok (.iload_n 2, 1) := by decide +kernel
theorem d_X8_rank_1 : decode mi_X8_rank.2.1 1 = .ok (.aload_n 0, 1) := by decide +kernel
theorem d_X8_rank_2 : decode mi_X8_rank.2.1 2 = .ok (.getfield 95, 3) := by decide +kernel
theorem d_X8_rank_5 : decode mi_X8_rank.2.1 5 = .ok (.iload_n 1, 1) := by decide +kernel
theorem d_X8_rank_6 : decode mi_X8_rank.2.1 6 = .ok (.iaload, 1) := by decide +kernel
theorem d_X8_rank_7 : decode mi_X8_rank.2.1 7 = .ok (.invokestatic 264, 3) := by decide +kernel
theorem d_X8_rank_10 : decode mi_X8_rank.2.1 10 = .ok (.istore 4, 2) := by decide +kernel
theorem d_X8_rank_12 : decode mi_X8_rank.2.1 12 = .ok (.iload_n 3, 1) := by decide +kernel
theorem d_X8_rank_13 : decode mi_X8_rank.2.1 13 = .ok (.aload_n 0, 1) := by decide +kernel
theorem d_X8_rank_14 : decode mi_X8_rank.2.1 14 = .ok (.getfield 98, 3) := by decide +kernel
theorem d_X8_rank_17 : decode mi_X8_rank.2.1 17 = .ok (.iload_n 1, 1) := by decide +kernel
theorem d_X8_rank_18 : decode mi_X8_rank.2.1 18 = .ok (.iaload, 1) := by decide +kernel
theorem d_X8_rank_19 : decode mi_X8_rank.2.1 19 = .ok (.invokestatic 264, 3) := by decide +kernel
theorem d_X8_rank_22 : decode mi_X8_rank.2.1 22 = .ok (.istore 5, 2) := by decide +kernel
theorem d_X8_rank_24 : decode mi_X8_rank.2.1 24 = .ok (.aload_n 0, 1) := by decide +kernel
theorem d_X8_rank_25 : decode mi_X8_rank.2.1 25 = .ok (.getfield 107, 3) := by decide +kernel
theorem d_X8_rank_28 : decode mi_X8_rank.2.1 28 = .ok (.aload_n 0, 1) := by decide +kernel
theorem d_X8_rank_29 : decode mi_X8_rank.2.1 29 = .ok (.getfield 104, 3) := by decide +kernel
theorem d_X8_rank_32 : decode mi_X8_rank.2.1 32 = .ok (.iload_n 1, 1) := by decide +kernel
theorem d_X8_rank_33 : decode mi_X8_rank.2.1 33 = .ok (.iaload, 1) := by decide +kernel
theorem d_X8_rank_34 : decode mi_X8_rank.2.1 34 = .ok (.baload, 1) := by decide +kernel
theorem d_X8_rank_35 : decode mi_X8_rank.2.1 35 = .ok (.ifCond .eq 17, 3) := by decide +kernel
theorem d_X8_rank_38 : decode mi_X8_rank.2.1 38 = .ok (.iload 4, 2) := by decide +kernel
theorem d_X8_rank_40 : decode mi_X8_rank.2.1 40 = .ok (.bipush (-4), 2) := by decide +kernel
theorem d_X8_rank_42 : decode mi_X8_rank.2.1 42 = .ok (.if_icmp .eq 10, 3) := by decide +kernel
theorem d_X8_rank_45 : decode mi_X8_rank.2.1 45 = .ok (.iload 5, 2) := by decide +kernel
theorem d_X8_rank_47 : decode mi_X8_rank.2.1 47 = .ok (.bipush (-4), 2) := by decide +kernel
theorem d_X8_rank_49 : decode mi_X8_rank.2.1 49 = .ok (.if_icmp .ne 8, 3) := by decide +kernel
theorem d_X8_rank_52 : decode mi_X8_rank.2.1 52 = .ok (.bipush (-4), 2) := by decide +kernel
theorem d_X8_rank_54 : decode mi_X8_rank.2.1 54 = .ok (.goto 23, 3) := by decide +kernel
theorem d_X8_rank_57 : decode mi_X8_rank.2.1 57 = .ok (.sipush 1000, 3) := by decide +kernel
theorem d_X8_rank_60 : decode mi_X8_rank.2.1 60 = .ok (.iload 4, 2) := by decide +kernel
theorem d_X8_rank_62 : decode mi_X8_rank.2.1 62 = .ok (.iload 5, 2) := by decide +kernel
theorem d_X8_rank_64 : decode mi_X8_rank.2.1 64 = .ok (.iadd, 1) := by decide +kernel
theorem d_X8_rank_65 : decode mi_X8_rank.2.1 65 = .ok (.imul, 1) := by decide +kernel
theorem d_X8_rank_66 : decode mi_X8_rank.2.1 66 = .ok (.bipush 100, 2) := by decide +kernel
theorem d_X8_rank_68 : decode mi_X8_rank.2.1 68 = .ok (.iload 4, 2) := by decide +kernel
theorem d_X8_rank_70 : decode mi_X8_rank.2.1 70 = .ok (.imul, 1) := by decide +kernel
theorem d_X8_rank_71 : decode mi_X8_rank.2.1 71 = .ok (.iadd, 1) := by decide +kernel
theorem d_X8_rank_72 : decode mi_X8_rank.2.1 72 = .ok (.bipush 50, 2) := by decide +kernel
theorem d_X8_rank_74 : decode mi_X8_rank.2.1 74 = .ok (.iadd, 1) := by decide +kernel
theorem d_X8_rank_75 : decode mi_X8_rank.2.1 75 = .ok (.iload_n 1, 1) := by decide +kernel
theorem d_X8_rank_76 : decode mi_X8_rank.2.1 76 = .ok (.isub, 1) := by decide +kernel
theorem d_X8_rank_77 : decode mi_X8_rank.2.1 77 = .ok (.ireturn, 1) := by decide +kernel
theorem cb_50 : (Int8.ofInt (50)).toInt32 = 50 := by decide
theorem cb_100 : (Int8.ofInt (100)).toInt32 = 100 := by decide
theorem cw_X8_264 : CT RX8 264 mi_X8_steps 2 := by unfold CT; decide +kernel
def f_X8_rank_52 (σ : SS) : Option (Int32 × SS) := some ((-4 : Int32), σ)
set_option maxRecDepth 20000 in
theorem t_X8_rank_52 {d : Nat} {X : MX} {Y : MY} {b : Nat × Nat} {r : Int32} {σ' : SS} {σ : SS} (h : f_X8_rank_52 σ = some (r, σ')) : WM (d + 2) X Y b mi_X8_rank 52 [none, none, none, none, none, none] [] σ (some (vI r), σ') := by
  rw [f_X8_rank_52] at h
  refine r_bipush (pc' := 54) d_X8_rank_52 cb_m4 rfl ?_
  refine r_goto (pc' := 77) d_X8_rank_54 rfl ?_
  exact r_iret d_X8_rank_77 rfl h
def f_X8_rank (v1 : Int32) (v2 : Int32) (v3 : Int32) (σ : SS) : Option (Int32 × SS) := chk (inr v1 40) (cal (f_X8_steps v2 (σ.1 76 0 (ix v1)) σ) (fun x2 s1 => chk (inr v1 40) (cal (f_X8_steps v3 (s1.1 77 0 (ix v1)) s1) (fun x4 s3 => chk (inr v1 40) (chk (inr (s3.1 79 0 (ix v1)) 8) (if (s3.1 80 0 (ix (s3.1 79 0 (ix v1)))) = 0 then (f_X8_rank_52  s3) else (if x2 = (-4 : Int32) then (f_X8_rank_52  s3) else (if x4 = (-4 : Int32) then (f_X8_rank_52  s3) else (some ((((((1000 : Int32) * (x2 + x4)) + ((100 : Int32) * x2)) + (50 : Int32)) - v1), s3))))))))))
set_option maxRecDepth 20000 in
theorem t_X8_rank {d : Nat} {b : Nat × Nat} {v1 : Int32} {v2 : Int32} {v3 : Int32} {σ : SS} {r : Int32} {σ' : SS} (h : f_X8_rank v1 v2 v3 σ = some (r, σ')) : MM (d + 2) b mi_X8_rank [vR 25 0, vI v1, vI v2, vI v3] σ (some (vI r), σ') := by
  refine MM.of (lv := [some (vR 25 0), some (vI v1), some (vI v2), some (vI v3), none, none]) (by decide +kernel) rfl rfl (fun X Y => ?_)
  rw [f_X8_rank] at h
  refine r_iload_n (pc' := 1) d_X8_rank_0 rfl rfl rfl ?_
  refine r_aload_n (pc' := 2) d_X8_rank_1 rfl rfl rfl ?_
  refine r_get (v := vR 76 _) (pc' := 5) fl_X8_95 d_X8_rank_2 rfl rfl (fun g => Or.inl ⟨rfl, g.2⟩) rfl ?_
  refine r_iload_n (pc' := 6) d_X8_rank_5 rfl rfl rfl ?_
  refine r_iaload (pc' := 7) d_X8_rank_6 rfl (fun _ => rfl) rfl h (fun h => ?_)
  refine s2_i (mc := mi_X8_steps) (bc := (0, 0)) (b' := _) (pc' := 10) cw_X8_264 d_X8_rank_7 rfl (Nat.zero_add _).symm (Nat.zero_add _).symm rfl h (fun _ _ e => t_X8_steps e) (fun x2 s1 h => ?_)
  refine r_istore (pc' := 12) d_X8_rank_10 rfl rfl rfl ?_
  refine r_iload_n (pc' := 13) d_X8_rank_12 rfl rfl rfl ?_
  refine r_aload_n (pc' := 14) d_X8_rank_13 rfl rfl rfl ?_
  refine r_get (v := vR 77 _) (pc' := 17) fl_X8_98 d_X8_rank_14 rfl rfl (fun g => Or.inl ⟨rfl, g.2⟩) rfl ?_
  refine r_iload_n (pc' := 18) d_X8_rank_17 rfl rfl rfl ?_
  refine r_iaload (pc' := 19) d_X8_rank_18 rfl (fun _ => rfl) rfl h (fun h => ?_)
  refine s2_i (mc := mi_X8_steps) (bc := (0, 0)) (b' := _) (pc' := 22) cw_X8_264 d_X8_rank_19 rfl (Nat.zero_add _).symm (Nat.zero_add _).symm rfl h (fun _ _ e => t_X8_steps e) (fun x4 s3 h => ?_)
  refine r_istore (pc' := 24) d_X8_rank_22 rfl rfl rfl ?_
  refine r_aload_n (pc' := 25) d_X8_rank_24 rfl rfl rfl ?_
  refine r_get (v := vR 80 _) (pc' := 28) fl_X8_107 d_X8_rank_25 rfl rfl (fun g => Or.inl ⟨rfl, g.2⟩) rfl ?_
  refine r_aload_n (pc' := 29) d_X8_rank_28 rfl rfl rfl ?_
  refine r_get (v := vR 79 _) (pc' := 32) fl_X8_104 d_X8_rank_29 rfl rfl (fun g => Or.inl ⟨rfl, g.2⟩) rfl ?_
  refine r_iload_n (pc' := 33) d_X8_rank_32 rfl rfl rfl ?_
  refine r_iaload (pc' := 34) d_X8_rank_33 rfl (fun _ => rfl) rfl h (fun h => ?_)
  refine r_baload (pc' := 35) d_X8_rank_34 rfl (fun _ => rfl) rfl h (fun h => ?_)
  refine r_if_eq (pcT := 52) (pc' := 38) d_X8_rank_35 rfl rfl h (fun _ h => ?_) (fun _ h => ?_)
  · exact WM.drop [0, 1, 2, 3, 4, 5] rfl (t_X8_rank_52 h)
  · refine r_iload (pc' := 40) d_X8_rank_38 rfl rfl ?_
    refine r_bipush (pc' := 42) d_X8_rank_40 cb_m4 rfl ?_
    refine r_icmp_eq (pcT := 52) (pc' := 45) d_X8_rank_42 rfl rfl h (fun _ h => ?_) (fun _ h => ?_)
    · exact WM.drop [0, 1, 2, 3, 4, 5] rfl (t_X8_rank_52 h)
    · refine r_iload (pc' := 47) d_X8_rank_45 rfl rfl ?_
      refine r_bipush (pc' := 49) d_X8_rank_47 cb_m4 rfl ?_
      refine r_icmp_ne (pcT := 57) (pc' := 52) d_X8_rank_49 rfl rfl h (fun _ h => ?_) (fun _ h => ?_)
      · exact WM.drop [0, 1, 2, 3, 4, 5] rfl (t_X8_rank_52 h)
      · refine r_sipush (pc' := 60) d_X8_rank_57 cs_1000 rfl ?_
        refine r_iload (pc' := 62) d_X8_rank_60 rfl rfl ?_
        refine r_iload (pc' := 64) d_X8_rank_62 rfl rfl ?_
        refine r_iadd (pc' := 65) d_X8_rank_64 rfl ?_
        refine r_imul (pc' := 66) d_X8_rank_65 rfl ?_
        refine r_bipush (pc' := 68) d_X8_rank_66 cb_100 rfl ?_
        refine r_iload (pc' := 70) d_X8_rank_68 rfl rfl ?_
        refine r_imul (pc' := 71) d_X8_rank_70 rfl ?_
        refine r_iadd (pc' := 72) d_X8_rank_71 rfl ?_
        refine r_bipush (pc' := 74) d_X8_rank_72 cb_50 rfl ?_
        refine r_iadd (pc' := 75) d_X8_rank_74 rfl ?_
        refine r_iload_n (pc' := 76) d_X8_rank_75 rfl rfl rfl ?_
        refine r_isub (pc' := 77) d_X8_rank_76 rfl ?_
        exact r_iret d_X8_rank_77 rfl h
/-! OctagonYardModel.nth(III)I -/
def mi_X8_nth : MI := (yX8_nth, cX8_nth, 9, (some .int))
theorem d_X8_nth_0 : decode mi_X8_nth.2.1 0 = .ok (.iconst 0, 1) := by decide +kernel
theorem d_X8_nth_1 : decode mi_X8_nth.2.1 1 = .ok (.istore 4, 2) := by decide +kernel
theorem d_X8_nth_3 : decode mi_X8_nth.2.1 3 = .ok (.iload 4, 2) := by decide +kernel
theorem d_X8_nth_5 : decode mi_X8_nth.2.1 5 = .ok (.aload_n 0, 1) := by decide +kernel
theorem d_X8_nth_6 : decode mi_X8_nth.2.1 6 = .ok (.getfield 261, 3) := by decide +kernel
theorem d_X8_nth_9 : decode mi_X8_nth.2.1 9 = .ok (.if_icmp .ge 97, 3) := by decide +kernel
theorem d_X8_nth_12 : decode mi_X8_nth.2.1 12 = .ok (.aload_n 0, 1) := by decide +kernel
theorem d_X8_nth_13 : decode mi_X8_nth.2.1 13 = .ok (.iload 4, 2) := by decide +kernel
theorem d_X8_nth_15 : decode mi_X8_nth.2.1 15 = .ok (.iload_n 1, 1) := by decide +kernel
theorem d_X8_nth_16 : decode mi_X8_nth.2.1 16 = .ok (.iload_n 2, 1) := by decide +kernel
theorem d_X8_nth_17 : decode mi_X8_nth.2.1 17 = .ok (.invokevirtual 267, 3) := by decide +kernel
theorem d_X8_nth_20 : decode mi_X8_nth.2.1 20 = .ok (.istore 5, 2) := by decide +kernel
theorem d_X8_nth_22 : decode mi_X8_nth.2.1 22 = .ok (.iconst 0, 1) := by decide +kernel
theorem d_X8_nth_23 : decode mi_X8_nth.2.1 23 = .ok (.istore 6, 2) := by decide +kernel
theorem d_X8_nth_25 : decode mi_X8_nth.2.1 25 = .ok (.iconst 0, 1) := by decide +kernel
theorem d_X8_nth_26 : decode mi_X8_nth.2.1 26 = .ok (.istore 7, 2) := by decide +kernel
theorem d_X8_nth_28 : decode mi_X8_nth.2.1 28 = .ok (.iload 7, 2) := by decide +kernel
theorem d_X8_nth_30 : decode mi_X8_nth.2.1 30 = .ok (.aload_n 0, 1) := by decide +kernel
theorem d_X8_nth_31 : decode mi_X8_nth.2.1 31 = .ok (.getfield 261, 3) := by decide +kernel
theorem d_X8_nth_34 : decode mi_X8_nth.2.1 34 = .ok (.if_icmp .ge 50, 3) := by decide +kernel
theorem d_X8_nth_37 : decode mi_X8_nth.2.1 37 = .ok (.iload 5, 2) := by decide +kernel
theorem d_X8_nth_39 : decode mi_X8_nth.2.1 39 = .ok (.bipush (-4), 2) := by decide +kernel
theorem d_X8_nth_41 : decode mi_X8_nth.2.1 41 = .ok (.if_icmp .eq 43, 3) := by decide +kernel
theorem d_X8_nth_44 : decode mi_X8_nth.2.1 44 = .ok (.aload_n 0, 1) := by decide +kernel
theorem d_X8_nth_45 : decode mi_X8_nth.2.1 45 = .ok (.iload 7, 2) := by decide +kernel
theorem d_X8_nth_47 : decode mi_X8_nth.2.1 47 = .ok (.iload_n 1, 1) := by decide +kernel
theorem d_X8_nth_48 : decode mi_X8_nth.2.1 48 = .ok (.iload_n 2, 1) := by decide +kernel
theorem d_X8_nth_49 : decode mi_X8_nth.2.1 49 = .ok (.invokevirtual 267, 3) := by decide +kernel
theorem d_X8_nth_52 : decode mi_X8_nth.2.1 52 = .ok (.istore 8, 2) := by decide +kernel
theorem d_X8_nth_54 : decode mi_X8_nth.2.1 54 = .ok (.iload 6, 2) := by decide +kernel
theorem d_X8_nth_56 : decode mi_X8_nth.2.1 56 = .ok (.iload 8, 2) := by decide +kernel
theorem d_X8_nth_58 : decode mi_X8_nth.2.1 58 = .ok (.bipush (-4), 2) := by decide +kernel
theorem d_X8_nth_60 : decode mi_X8_nth.2.1 60 = .ok (.if_icmp .eq 14, 3) := by decide +kernel
theorem d_X8_nth_63 : decode mi_X8_nth.2.1 63 = .ok (.iload 8, 2) := by decide +kernel
theorem d_X8_nth_65 : decode mi_X8_nth.2.1 65 = .ok (.iload 5, 2) := by decide +kernel
theorem d_X8_nth_67 : decode mi_X8_nth.2.1 67 = .ok (.if_icmp .ge 7, 3) := by decide +kernel
theorem d_X8_nth_70 : decode mi_X8_nth.2.1 70 = .ok (.iconst 1, 1) := by decide +kernel
theorem d_X8_nth_71 : decode mi_X8_nth.2.1 71 = .ok (.goto 4, 3) := by decide +kernel
theorem d_X8_nth_74 : decode mi_X8_nth.2.1 74 = .ok (.iconst 0, 1) := by decide +kernel
theorem d_X8_nth_75 : decode mi_X8_nth.2.1 75 = .ok (.iadd, 1) := by decide +kernel
theorem d_X8_nth_76 : decode mi_X8_nth.2.1 76 = .ok (.istore 6, 2) := by decide +kernel
theorem d_X8_nth_78 : decode mi_X8_nth.2.1 78 = .ok (.iinc 7 1, 3) := by decide +kernel
theorem d_X8_nth_81 : decode mi_X8_nth.2.1 81 = .ok (.goto (-53), 3) := by decide +kernel
theorem d_X8_nth_84 : decode mi_X8_nth.2.1 84 = .ok (.iload 5, 2) := by decide +kernel
theorem d_X8_nth_86 : decode mi_X8_nth.2.1 86 = .ok (.bipush (-4), 2) := by decide +kernel
theorem d_X8_nth_88 : decode mi_X8_nth.2.1 88 = .ok (.if_icmp .eq 12, 3) := by decide +kernel
theorem d_X8_nth_91 : decode mi_X8_nth.2.1 91 = .ok (.iload 6, 2) := by decide +kernel
theorem d_X8_nth_93 : decode mi_X8_nth.2.1 93 = .ok (.iload_n 3, 1) := by decide +kernel
theorem d_X8_nth_94 : decode mi_X8_nth.2.1 94 = .ok (.if_icmp .ne 6, 3) := by decide +kernel
theorem d_X8_nth_97 : decode mi_X8_nth.2.1 97 = .ok (.iload 4, 2) := by decide +kernel
theorem d_X8_nth_99 : decode mi_X8_nth.2.1 99 = .ok (.ireturn, 1) := by decide +kernel
theorem d_X8_nth_100 : decode mi_X8_nth.2.1 100 = .ok (.iinc 4 1, 3) := by decide +kernel
theorem d_X8_nth_103 : decode mi_X8_nth.2.1 103 = .ok (.goto (-100), 3) := by decide +kernel
theorem d_X8_nth_106 : decode mi_X8_nth.2.1 106 = .ok (.bipush (-4), 2) := by decide +kernel
theorem d_X8_nth_108 : decode mi_X8_nth.2.1 108 = .ok (.ireturn, 1) := by decide +kernel
theorem cw_X8_267 : CV RX8 267 mi_X8_rank 3 := by unfold CV; decide +kernel
def f_X8_nth_100 (K3 : Int32 → Int32 → Int32 → Int32 → SS → Option (Int32 × SS)) (v1 : Int32) (v2 : Int32) (v3 : Int32) (v4 : Int32) (σ : SS) : Option (Int32 × SS) := lt_ (v4 + (1 : Int32)) (fun x1 => K3 v1 v2 v3 x1 σ)
set_option maxRecDepth 20000 in
theorem t_X8_nth_100 {d : Nat} {X : MX} {Y : MY} {b : Nat × Nat} {r : Int32} {σ' : SS} {K3 : Int32 → Int32 → Int32 → Int32 → SS → Option (Int32 × SS)} {v1 : Int32} {v2 : Int32} {v3 : Int32} {v4 : Int32} (hK3 : ∀ (v1 : Int32) (v2 : Int32) (v3 : Int32) (v4 : Int32) (σ : SS), K3 v1 v2 v3 v4 σ = some (r, σ') → WM (d + 3) X Y b mi_X8_nth 3 [some (vR 25 0), some (vI v1), some (vI v2), some (vI v3), some (vI v4), none, none, none, none] [] σ (some (vI r), σ')) {σ : SS} (h : f_X8_nth_100 K3 v1 v2 v3 v4 σ = some (r, σ')) : WM (d + 3) X Y b mi_X8_nth 100 [some (vR 25 0), some (vI v1), some (vI v2), some (vI v3), some (vI v4), none, none, none, none] [] σ (some (vI r), σ') := by
  rw [f_X8_nth_100] at h
  refine l_iinc (pc' := 103) d_X8_nth_100 rfl ci_1 rfl rfl rfl h (fun x1 h => ?_)
  refine r_goto (pc' := 3) d_X8_nth_103 rfl ?_
  exact WM.drop [] rfl (hK3 _ _ _ _ _ h)
def f_X8_nth_84 (K3 : Int32 → Int32 → Int32 → Int32 → SS → Option (Int32 × SS)) (v1 : Int32) (v2 : Int32) (v3 : Int32) (v4 : Int32) (v5 : Int32) (v6 : Int32) (σ : SS) : Option (Int32 × SS) := if v5 = (-4 : Int32) then (f_X8_nth_100 K3 v1 v2 v3 v4 σ) else (if v6 = v3 then (some (v4, σ)) else (f_X8_nth_100 K3 v1 v2 v3 v4 σ))
set_option maxRecDepth 20000 in
theorem t_X8_nth_84 {d : Nat} {X : MX} {Y : MY} {b : Nat × Nat} {r : Int32} {σ' : SS} {K3 : Int32 → Int32 → Int32 → Int32 → SS → Option (Int32 × SS)} {v1 : Int32} {v2 : Int32} {v3 : Int32} {v4 : Int32} {v5 : Int32} {v6 : Int32} (hK3 : ∀ (v1 : Int32) (v2 : Int32) (v3 : Int32) (v4 : Int32) (σ : SS), K3 v1 v2 v3 v4 σ = some (r, σ') → WM (d + 3) X Y b mi_X8_nth 3 [some (vR 25 0), some (vI v1), some (vI v2), some (vI v3), some (vI v4), none, none, none, none] [] σ (some (vI r), σ')) {σ : SS} (h : f_X8_nth_84 K3 v1 v2 v3 v4 v5 v6 σ = some (r, σ')) : WM (d + 3) X Y b mi_X8_nth 84 [some (vR 25 0), some (vI v1), some (vI v2), some (vI v3), some (vI v4), some (vI v5), some (vI v6), none, none] [] σ (some (vI r), σ') := by
  rw [f_X8_nth_84] at h
  refine r_iload (pc' := 86) d_X8_nth_84 rfl rfl ?_
  refine r_bipush (pc' := 88) d_X8_nth_86 cb_m4 rfl ?_
  refine r_icmp_eq (pcT := 100) (pc' := 91) d_X8_nth_88 rfl rfl h (fun _ h => ?_) (fun _ h => ?_)
  · exact WM.drop [5, 6] rfl (t_X8_nth_100 hK3 h)
  · refine r_iload (pc' := 93) d_X8_nth_91 rfl rfl ?_
    refine r_iload_n (pc' := 94) d_X8_nth_93 rfl rfl rfl ?_
    refine r_icmp_ne (pcT := 100) (pc' := 97) d_X8_nth_94 rfl rfl h (fun _ h => ?_) (fun _ h => ?_)
    · refine r_iload (pc' := 99) d_X8_nth_97 rfl rfl ?_
      exact r_iret d_X8_nth_99 rfl h
    · exact WM.drop [5, 6] rfl (t_X8_nth_100 hK3 h)
def f_X8_nth_75 (K3 : Int32 → Int32 → Int32 → Int32 → SS → Option (Int32 × SS)) (K28 : Int32 → Int32 → Int32 → Int32 → Int32 → Int32 → Int32 → SS → Option (Int32 × SS)) (v1 : Int32) (v2 : Int32) (v3 : Int32) (v4 : Int32) (v5 : Int32) (v7 : Int32) (u0 : Int32) (u1 : Int32) (σ : SS) : Option (Int32 × SS) := lt_ (u0 + u1) (fun x1 => lt_ (v7 + (1 : Int32)) (fun x2 => K28 v1 v2 v3 v4 v5 x1 x2 σ))
set_option maxRecDepth 20000 in
theorem t_X8_nth_75 {d : Nat} {X : MX} {Y : MY} {b : Nat × Nat} {r : Int32} {σ' : SS} {K3 : Int32 → Int32 → Int32 → Int32 → SS → Option (Int32 × SS)} {K28 : Int32 → Int32 → Int32 → Int32 → Int32 → Int32 → Int32 → SS → Option (Int32 × SS)} {v1 : Int32} {v2 : Int32} {v3 : Int32} {v4 : Int32} {v5 : Int32} {v7 : Int32} {u0 : Int32} {u1 : Int32} (hK3 : ∀ (v1 : Int32) (v2 : Int32) (v3 : Int32) (v4 : Int32) (σ : SS), K3 v1 v2 v3 v4 σ = some (r, σ') → WM (d + 3) X Y b mi_X8_nth 3 [some (vR 25 0), some (vI v1), some (vI v2), some (vI v3), some (vI v4), none, none, none, none] [] σ (some (vI r), σ')) (hK28 : ∀ (v1 : Int32) (v2 : Int32) (v3 : Int32) (v4 : Int32) (v5 : Int32) (v6 : Int32) (v7 : Int32) (σ : SS), K28 v1 v2 v3 v4 v5 v6 v7 σ = some (r, σ') → WM (d + 3) X Y b mi_X8_nth 28 [some (vR 25 0), some (vI v1), some (vI v2), some (vI v3), some (vI v4), some (vI v5), some (vI v6), some (vI v7), none] [] σ (some (vI r), σ')) {σ : SS} (h : f_X8_nth_75 K3 K28 v1 v2 v3 v4 v5 v7 u0 u1 σ = some (r, σ')) : WM (d + 3) X Y b mi_X8_nth 75 [some (vR 25 0), some (vI v1), some (vI v2), some (vI v3), some (vI v4), some (vI v5), none, some (vI v7), none] [vI u1, vI u0] σ (some (vI r), σ') := by
  rw [f_X8_nth_75] at h
  refine r_iadd (pc' := 76) d_X8_nth_75 rfl ?_
  refine l_istore (pc' := 78) d_X8_nth_76 rfl rfl rfl h (fun x1 h => ?_)
  refine l_iinc (pc' := 81) d_X8_nth_78 rfl ci_1 rfl rfl rfl h (fun x2 h => ?_)
  refine r_goto (pc' := 28) d_X8_nth_81 rfl ?_
  exact WM.drop [] rfl (hK28 _ _ _ _ _ _ _ _ h)
def f_X8_nth_74 (K3 : Int32 → Int32 → Int32 → Int32 → SS → Option (Int32 × SS)) (K28 : Int32 → Int32 → Int32 → Int32 → Int32 → Int32 → Int32 → SS → Option (Int32 × SS)) (v1 : Int32) (v2 : Int32) (v3 : Int32) (v4 : Int32) (v5 : Int32) (v7 : Int32) (u0 : Int32) (σ : SS) : Option (Int32 × SS) := f_X8_nth_75 K3 K28 v1 v2 v3 v4 v5 v7 u0 (0 : Int32) σ
set_option maxRecDepth 20000 in
theorem t_X8_nth_74 {d : Nat} {X : MX} {Y : MY} {b : Nat × Nat} {r : Int32} {σ' : SS} {K3 : Int32 → Int32 → Int32 → Int32 → SS → Option (Int32 × SS)} {K28 : Int32 → Int32 → Int32 → Int32 → Int32 → Int32 → Int32 → SS → Option (Int32 × SS)} {v1 : Int32} {v2 : Int32} {v3 : Int32} {v4 : Int32} {v5 : Int32} {v7 : Int32} {u0 : Int32} (hK3 : ∀ (v1 : Int32) (v2 : Int32) (v3 : Int32) (v4 : Int32) (σ : SS), K3 v1 v2 v3 v4 σ = some (r, σ') → WM (d + 3) X Y b mi_X8_nth 3 [some (vR 25 0), some (vI v1), some (vI v2), some (vI v3), some (vI v4), none, none, none, none] [] σ (some (vI r), σ')) (hK28 : ∀ (v1 : Int32) (v2 : Int32) (v3 : Int32) (v4 : Int32) (v5 : Int32) (v6 : Int32) (v7 : Int32) (σ : SS), K28 v1 v2 v3 v4 v5 v6 v7 σ = some (r, σ') → WM (d + 3) X Y b mi_X8_nth 28 [some (vR 25 0), some (vI v1), some (vI v2), some (vI v3), some (vI v4), some (vI v5), some (vI v6), some (vI v7), none] [] σ (some (vI r), σ')) {σ : SS} (h : f_X8_nth_74 K3 K28 v1 v2 v3 v4 v5 v7 u0 σ = some (r, σ')) : WM (d + 3) X Y b mi_X8_nth 74 [some (vR 25 0), some (vI v1), some (vI v2), some (vI v3), some (vI v4), some (vI v5), none, some (vI v7), none] [vI u0] σ (some (vI r), σ') := by
  rw [f_X8_nth_74] at h
  refine r_iconst (pc' := 75) d_X8_nth_74 ci_0 rfl ?_
  exact WM.drop [] rfl (t_X8_nth_75 hK3 hK28 h)
def f_X8_nth_28 (K3 : Int32 → Int32 → Int32 → Int32 → SS → Option (Int32 × SS)) : Nat → Int32 → Int32 → Int32 → Int32 → Int32 → Int32 → Int32 → SS → Option (Int32 × SS)
  | 0, _, _, _, _, _, _, _, _ => none
  | n + 1, v1, v2, v3, v4, v5, v6, v7, σ => if (σ.1 25 0 35) ≤ v7 then (f_X8_nth_84 K3 v1 v2 v3 v4 v5 v6 σ) else (if v5 = (-4 : Int32) then (f_X8_nth_84 K3 v1 v2 v3 v4 v5 v6 σ) else (cal (f_X8_rank v7 v1 v2 σ) (fun x2 s1 => if x2 = (-4 : Int32) then (f_X8_nth_74 K3 (f_X8_nth_28 K3 n) v1 v2 v3 v4 v5 v7 v6 s1) else (if v5 ≤ x2 then (f_X8_nth_74 K3 (f_X8_nth_28 K3 n) v1 v2 v3 v4 v5 v7 v6 s1) else (f_X8_nth_75 K3 (f_X8_nth_28 K3 n) v1 v2 v3 v4 v5 v7 v6 (1 : Int32) s1)))))
set_option maxRecDepth 20000 in
theorem t_X8_nth_28 {d : Nat} {X : MX} {Y : MY} {b : Nat × Nat} {r : Int32} {σ' : SS} {K3 : Int32 → Int32 → Int32 → Int32 → SS → Option (Int32 × SS)} (hK3 : ∀ (v1 : Int32) (v2 : Int32) (v3 : Int32) (v4 : Int32) (σ : SS), K3 v1 v2 v3 v4 σ = some (r, σ') → WM (d + 3) X Y b mi_X8_nth 3 [some (vR 25 0), some (vI v1), some (vI v2), some (vI v3), some (vI v4), none, none, none, none] [] σ (some (vI r), σ')) : ∀ (n : Nat) (v1 : Int32) (v2 : Int32) (v3 : Int32) (v4 : Int32) (v5 : Int32) (v6 : Int32) (v7 : Int32) (σ : SS), f_X8_nth_28 K3 n v1 v2 v3 v4 v5 v6 v7 σ = some (r, σ') → WM (d + 3) X Y b mi_X8_nth 28 [some (vR 25 0), some (vI v1), some (vI v2), some (vI v3), some (vI v4), some (vI v5), some (vI v6), some (vI v7), none] [] σ (some (vI r), σ') := by
  intro n
  induction n with
  | zero => intro _ _ _ _ _ _ _ σ h; cases h
  | succ n ih =>
    intro v1 v2 v3 v4 v5 v6 v7 σ h
    rw [f_X8_nth_28] at h
    refine r_iload (pc' := 30) d_X8_nth_28 rfl rfl ?_
    refine r_aload_n (pc' := 31) d_X8_nth_30 rfl rfl rfl ?_
    refine r_get (v := vI _) (pc' := 34) fl_X8_261 d_X8_nth_31 rfl rfl (fun _ => trivial) rfl ?_
    refine r_icmp_ge (pcT := 84) (pc' := 37) d_X8_nth_34 rfl rfl h (fun _ h => ?_) (fun _ h => ?_)
    · exact WM.drop [7] rfl (t_X8_nth_84 hK3 h)
    · refine r_iload (pc' := 39) d_X8_nth_37 rfl rfl ?_
      refine r_bipush (pc' := 41) d_X8_nth_39 cb_m4 rfl ?_
      refine r_icmp_eq (pcT := 84) (pc' := 44) d_X8_nth_41 rfl rfl h (fun _ h => ?_) (fun _ h => ?_)
      · exact WM.drop [7] rfl (t_X8_nth_84 hK3 h)
      · refine r_aload_n (pc' := 45) d_X8_nth_44 rfl rfl rfl ?_
        refine r_iload (pc' := 47) d_X8_nth_45 rfl rfl ?_
        refine r_iload_n (pc' := 48) d_X8_nth_47 rfl rfl rfl ?_
        refine r_iload_n (pc' := 49) d_X8_nth_48 rfl rfl rfl ?_
        refine v3_i (mc := mi_X8_rank) (bc := (0, 0)) (b' := _) (pc' := 52) cw_X8_267 d_X8_nth_49 rfl rfl rfl (Nat.zero_add _).symm (Nat.zero_add _).symm rfl h (fun _ _ e => t_X8_rank e) (fun x2 s1 h => ?_)
        refine r_istore (pc' := 54) d_X8_nth_52 rfl rfl rfl ?_
        refine r_iload (pc' := 56) d_X8_nth_54 rfl rfl ?_
        refine r_iload (pc' := 58) d_X8_nth_56 rfl rfl ?_
        refine r_bipush (pc' := 60) d_X8_nth_58 cb_m4 rfl ?_
        refine r_icmp_eq (pcT := 74) (pc' := 63) d_X8_nth_60 rfl rfl h (fun _ h => ?_) (fun _ h => ?_)
        · exact WM.drop [6, 8] rfl (t_X8_nth_74 hK3 ih h)
        · refine r_iload (pc' := 65) d_X8_nth_63 rfl rfl ?_
          refine r_iload (pc' := 67) d_X8_nth_65 rfl rfl ?_
          refine r_icmp_ge (pcT := 74) (pc' := 70) d_X8_nth_67 rfl rfl h (fun _ h => ?_) (fun _ h => ?_)
          · exact WM.drop [6, 8] rfl (t_X8_nth_74 hK3 ih h)
          · refine r_iconst (pc' := 71) d_X8_nth_70 ci_1 rfl ?_
            refine r_goto (pc' := 75) d_X8_nth_71 rfl ?_
            exact WM.drop [6, 8] rfl (t_X8_nth_75 hK3 ih h)
def f_X8_nth_3 : Nat → Int32 → Int32 → Int32 → Int32 → SS → Option (Int32 × SS)
  | 0, _, _, _, _, _ => none
  | n + 1, v1, v2, v3, v4, σ => if (σ.1 25 0 35) ≤ v4 then (some ((-4 : Int32), σ)) else (cal (f_X8_rank v4 v1 v2 σ) (fun x2 s1 => f_X8_nth_28 (f_X8_nth_3 n) FU v1 v2 v3 v4 x2 (0 : Int32) (0 : Int32) s1))
set_option maxRecDepth 20000 in
theorem t_X8_nth_3 {d : Nat} {X : MX} {Y : MY} {b : Nat × Nat} {r : Int32} {σ' : SS} : ∀ (n : Nat) (v1 : Int32) (v2 : Int32) (v3 : Int32) (v4 : Int32) (σ : SS), f_X8_nth_3 n v1 v2 v3 v4 σ = some (r, σ') → WM (d + 3) X Y b mi_X8_nth 3 [some (vR 25 0), some (vI v1), some (vI v2), some (vI v3), some (vI v4), none, none, none, none] [] σ (some (vI r), σ') := by
  intro n
  induction n with
  | zero => intro _ _ _ _ σ h; cases h
  | succ n ih =>
    intro v1 v2 v3 v4 σ h
    rw [f_X8_nth_3] at h
    refine r_iload (pc' := 5) d_X8_nth_3 rfl rfl ?_
    refine r_aload_n (pc' := 6) d_X8_nth_5 rfl rfl rfl ?_
    refine r_get (v := vI _) (pc' := 9) fl_X8_261 d_X8_nth_6 rfl rfl (fun _ => trivial) rfl ?_
    refine r_icmp_ge (pcT := 106) (pc' := 12) d_X8_nth_9 rfl rfl h (fun _ h => ?_) (fun _ h => ?_)
    · refine r_bipush (pc' := 108) d_X8_nth_106 cb_m4 rfl ?_
      exact r_iret d_X8_nth_108 rfl h
    · refine r_aload_n (pc' := 13) d_X8_nth_12 rfl rfl rfl ?_
      refine r_iload (pc' := 15) d_X8_nth_13 rfl rfl ?_
      refine r_iload_n (pc' := 16) d_X8_nth_15 rfl rfl rfl ?_
      refine r_iload_n (pc' := 17) d_X8_nth_16 rfl rfl rfl ?_
      refine v3_i (mc := mi_X8_rank) (bc := (0, 0)) (b' := _) (pc' := 20) cw_X8_267 d_X8_nth_17 rfl rfl rfl (Nat.zero_add _).symm (Nat.zero_add _).symm rfl h (fun _ _ e => t_X8_rank e) (fun x2 s1 h => ?_)
      refine r_istore (pc' := 22) d_X8_nth_20 rfl rfl rfl ?_
      refine r_iconst (pc' := 23) d_X8_nth_22 ci_0 rfl ?_
      refine r_istore (pc' := 25) d_X8_nth_23 rfl rfl rfl ?_
      refine r_iconst (pc' := 26) d_X8_nth_25 ci_0 rfl ?_
      refine r_istore (pc' := 28) d_X8_nth_26 rfl rfl rfl ?_
      exact WM.drop [] rfl (t_X8_nth_28 ih _ _ _ _ _ _ _ _ _ h)
def f_X8_nth (v1 : Int32) (v2 : Int32) (v3 : Int32) (σ : SS) : Option (Int32 × SS) := f_X8_nth_3 FU v1 v2 v3 (0 : Int32) σ
set_option maxRecDepth 20000 in
theorem t_X8_nth {d : Nat} {b : Nat × Nat} {v1 : Int32} {v2 : Int32} {v3 : Int32} {σ : SS} {r : Int32} {σ' : SS} (h : f_X8_nth v1 v2 v3 σ = some (r, σ')) : MM (d + 3) b mi_X8_nth [vR 25 0, vI v1, vI v2, vI v3] σ (some (vI r), σ') := by
  refine MM.of (lv := [some (vR 25 0), some (vI v1), some (vI v2), some (vI v3), none, none, none, none, none]) (by decide +kernel) rfl rfl (fun X Y => ?_)
  rw [f_X8_nth] at h
  refine r_iconst (pc' := 1) d_X8_nth_0 ci_0 rfl ?_
  refine r_istore (pc' := 3) d_X8_nth_1 rfl rfl rfl ?_
  exact WM.drop [] rfl (t_X8_nth_3 _ _ _ _ _ _ h)
/-! OctagonYardModel.isKind(I)Z -/
def mi_X8_isKind : MI := (yX8_isKind, cX8_isKind, 1, (some .boolean))
theorem d_X8_isKind_0 : decode mi_X8_isKind.2.1 0 = .ok (.iload_n 0, 1) := by decide +kernel
theorem d_X8_isKind_1 : decode mi_X8_isKind.2.1 1 = .ok (.i2l, 1) := by decide +kernel
theorem d_X8_isKind_2 : decode mi_X8_isKind.2.1 2 = .ok (.lconst 0, 1) := by decide +kernel
theorem d_X8_isKind_3 : decode mi_X8_isKind.2.1 3 = .ok (.ldc2_w 271, 3) := by decide +kernel
theorem d_X8_isKind_6 : decode mi_X8_isKind.2.1 6 = .ok (.invokestatic 139, 3) := by decide +kernel
theorem d_X8_isKind_9 : decode mi_X8_isKind.2.1 9 = .ok (.ireturn, 1) := by decide +kernel
theorem k_X8_271 : Cond.constantLong RX8 271 (5) ∈ mtbl := by decide +kernel
def f_X8_isKind (v0 : Int32) (σ : SS) : Option (Int32 × SS) := cal (f_X8_in (Int32.toInt64 v0) (0 : Int64) (5 : Int64) σ) (fun x2 s1 => chk (x2 = 0 ∨ x2 = 1) (some (x2, s1)))
set_option maxRecDepth 20000 in
theorem t_X8_isKind {d : Nat} {b : Nat × Nat} {v0 : Int32} {σ : SS} {r : Int32} {σ' : SS} (h : f_X8_isKind v0 σ = some (r, σ')) : MM (d + 1) b mi_X8_isKind [vI v0] σ (some (vI r), σ') := by
  refine MM.of (lv := [some (vI v0)]) (by decide +kernel) rfl rfl (fun X Y => ?_)
  rw [f_X8_isKind] at h
  refine r_iload_n (pc' := 1) d_X8_isKind_0 rfl rfl rfl ?_
  refine r_i2l (pc' := 2) d_X8_isKind_1 rfl ?_
  refine r_lconst (pc' := 3) (x := 0) d_X8_isKind_2 rfl rfl ?_
  refine r_ldc2 (pc' := 6) k_X8_271 d_X8_isKind_3 rfl ?_
  refine s3_i (mc := mi_X8_in) (bc := (0, 0)) (b' := _) (pc' := 9) cw_X8_139 d_X8_isKind_6 rfl (Nat.zero_add _).symm (Nat.zero_add _).symm rfl h (fun _ _ e => t_X8_in e) (fun x2 s1 h => ?_)
  obtain ⟨z3, h⟩ := chk_t h
  exact r_zret d_X8_isKind_9 rfl z3 h
/-! OctagonYardModel.above(III)I -/
def mi_X8_above : MI := (yX8_above, cX8_above, 4, (some .int))
theorem d_X8_above_0 : decode mi_X8_above.2.1 0 = .ok (.iload_n 1, 1) := by decide +kernel
theorem d_X8_above_1 : decode mi_X8_above.2.1 1 = .ok (.invokestatic 273, 3) := by decide +kernel
theorem d_X8_above_4 : decode mi_X8_above.2.1 4 = .ok (.ifCond .eq 14, 3) := by decide +kernel
theorem d_X8_above_7 : decode mi_X8_above.2.1 7 = .ok (.iload_n 2, 1) := by decide +kernel
theorem d_X8_above_8 : decode mi_X8_above.2.1 8 = .ok (.invokestatic 273, 3) := by decide +kernel
theorem d_X8_above_11 : decode mi_X8_above.2.1 11 = .ok (.ifCond .eq 7, 3) := by decide +kernel
theorem d_X8_above_14 : decode mi_X8_above.2.1 14 = .ok (.iload_n 3, 1) := by decide +kernel
theorem d_X8_above_15 : decode mi_X8_above.2.1 15 = .ok (.ifCond .ge 7, 3) := by decide +kernel
theorem d_X8_above_18 : decode mi_X8_above.2.1 18 = .ok (.iconst (-1), 1) := by decide +kernel
theorem d_X8_above_19 : decode mi_X8_above.2.1 19 = .ok (.goto 10, 3) := by decide +kernel
theorem d_X8_above_22 : decode mi_X8_above.2.1 22 = .ok (.aload_n 0, 1) := by decide +kernel
theorem d_X8_above_23 : decode mi_X8_above.2.1 23 = .ok (.iload_n 1, 1) := by decide +kernel
theorem d_X8_above_24 : decode mi_X8_above.2.1 24 = .ok (.iload_n 2, 1) := by decide +kernel
theorem d_X8_above_25 : decode mi_X8_above.2.1 25 = .ok (.iload_n 3, 1) := by decide +kernel
theorem d_X8_above_26 : decode mi_X8_above.2.1 26 = .ok (.invokevirtual 276, 3) := by decide +kernel
theorem d_X8_above_29 : decode mi_X8_above.2.1 29 = .ok (.ireturn, 1) := by decide +kernel
theorem cw_X8_273 : CT RX8 273 mi_X8_isKind 1 := by unfold CT; decide +kernel
theorem cw_X8_276 : CV RX8 276 mi_X8_nth 3 := by unfold CV; decide +kernel
def f_X8_above_18 (σ : SS) : Option (Int32 × SS) := some ((-1 : Int32), σ)
set_option maxRecDepth 20000 in
theorem t_X8_above_18 {d : Nat} {X : MX} {Y : MY} {b : Nat × Nat} {r : Int32} {σ' : SS} {σ : SS} (h : f_X8_above_18 σ = some (r, σ')) : WM (d + 4) X Y b mi_X8_above 18 [none, none, none, none] [] σ (some (vI r), σ') := by
  rw [f_X8_above_18] at h
  refine r_iconst (pc' := 19) d_X8_above_18 ci_m1 rfl ?_
  refine r_goto (pc' := 29) d_X8_above_19 rfl ?_
  exact r_iret d_X8_above_29 rfl h
def f_X8_above (v1 : Int32) (v2 : Int32) (v3 : Int32) (σ : SS) : Option (Int32 × SS) := cal (f_X8_isKind v1 σ) (fun x2 s1 => if x2 = 0 then (f_X8_above_18  s1) else (cal (f_X8_isKind v2 s1) (fun x4 s3 => if x4 = 0 then (f_X8_above_18  s3) else (if 0 ≤ v3 then (cal (f_X8_nth v1 v2 v3 s3) (fun x6 s5 => some (x6, s5))) else (f_X8_above_18  s3)))))
set_option maxRecDepth 20000 in
theorem t_X8_above {d : Nat} {b : Nat × Nat} {v1 : Int32} {v2 : Int32} {v3 : Int32} {σ : SS} {r : Int32} {σ' : SS} (h : f_X8_above v1 v2 v3 σ = some (r, σ')) : MM (d + 4) b mi_X8_above [vR 25 0, vI v1, vI v2, vI v3] σ (some (vI r), σ') := by
  refine MM.of (lv := [some (vR 25 0), some (vI v1), some (vI v2), some (vI v3)]) (by decide +kernel) rfl rfl (fun X Y => ?_)
  rw [f_X8_above] at h
  refine r_iload_n (pc' := 1) d_X8_above_0 rfl rfl rfl ?_
  refine s1_i (mc := mi_X8_isKind) (bc := (0, 0)) (b' := _) (pc' := 4) cw_X8_273 d_X8_above_1 rfl (Nat.zero_add _).symm (Nat.zero_add _).symm rfl h (fun _ _ e => t_X8_isKind e) (fun x2 s1 h => ?_)
  refine r_if_eq (pcT := 18) (pc' := 7) d_X8_above_4 rfl rfl h (fun _ h => ?_) (fun _ h => ?_)
  · exact WM.drop [0, 1, 2, 3] rfl (t_X8_above_18 h)
  · refine r_iload_n (pc' := 8) d_X8_above_7 rfl rfl rfl ?_
    refine s1_i (mc := mi_X8_isKind) (bc := (0, 0)) (b' := _) (pc' := 11) cw_X8_273 d_X8_above_8 rfl (Nat.zero_add _).symm (Nat.zero_add _).symm rfl h (fun _ _ e => t_X8_isKind e) (fun x4 s3 h => ?_)
    refine r_if_eq (pcT := 18) (pc' := 14) d_X8_above_11 rfl rfl h (fun _ h => ?_) (fun _ h => ?_)
    · exact WM.drop [0, 1, 2, 3] rfl (t_X8_above_18 h)
    · refine r_iload_n (pc' := 15) d_X8_above_14 rfl rfl rfl ?_
      refine r_if_ge (pcT := 22) (pc' := 18) d_X8_above_15 rfl rfl h (fun _ h => ?_) (fun _ h => ?_)
      · refine r_aload_n (pc' := 23) d_X8_above_22 rfl rfl rfl ?_
        refine r_iload_n (pc' := 24) d_X8_above_23 rfl rfl rfl ?_
        refine r_iload_n (pc' := 25) d_X8_above_24 rfl rfl rfl ?_
        refine r_iload_n (pc' := 26) d_X8_above_25 rfl rfl rfl ?_
        refine v3_i (mc := mi_X8_nth) (bc := (0, 0)) (b' := _) (pc' := 29) cw_X8_276 d_X8_above_26 rfl rfl rfl (Nat.zero_add _).symm (Nat.zero_add _).symm rfl h (fun _ _ e => t_X8_nth e) (fun x6 s5 h => ?_)
        exact r_iret d_X8_above_29 rfl h
      · exact WM.drop [0, 1, 2, 3] rfl (t_X8_above_18 h)
/-! OctagonYardModel.treating(II)I -/
def mi_X8_treating : MI := (yX8_treating, cX8_treating, 7, (some .int))
theorem d_X8_treating_0 : decode mi_X8_treating.2.1 0 = .ok (.aload_n 0, 1) := by decide +kernel
theorem d_X8_treating_1 : decode mi_X8_treating.2.1 1 = .ok (.iload_n 1, 1) := by decide +kernel
theorem d_X8_treating_2 : decode mi_X8_treating.2.1 2 = .ok (.iload_n 2, 1) := by decide +kernel
theorem d_X8_treating_3 : decode mi_X8_treating.2.1 3 = .ok (.iconst 0, 1) := by decide +kernel
theorem d_X8_treating_4 : decode mi_X8_treating.2.1 4 = .ok (.invokevirtual 276, 3) := by decide +kernel
theorem d_X8_treating_7 : decode mi_X8_treating.2.1 7 = .ok (.istore_n 3, 1) := by decide +kernel
theorem d_X8_treating_8 : decode mi_X8_treating.2.1 8 = .ok (.iload_n 1, 1) := by decide +kernel
theorem d_X8_treating_9 : decode mi_X8_treating.2.1 9 = .ok (.aload_n 0, 1) := by decide +kernel
theorem d_X8_treating_10 : decode mi_X8_treating.2.1 10 = .ok (.getfield 95, 3) := by decide +kernel
theorem d_X8_treating_13 : decode mi_X8_treating.2.1 13 = .ok (.iload_n 3, 1) := by decide +kernel
theorem d_X8_treating_14 : decode mi_X8_treating.2.1 14 = .ok (.iaload, 1) := by decide +kernel
theorem d_X8_treating_15 : decode mi_X8_treating.2.1 15 = .ok (.invokestatic 264, 3) := by decide +kernel
theorem d_X8_treating_18 : decode mi_X8_treating.2.1 18 = .ok (.istore 4, 2) := by decide +kernel
theorem d_X8_treating_20 : decode mi_X8_treating.2.1 20 = .ok (.iload 4, 2) := by decide +kernel
theorem d_X8_treating_22 : decode mi_X8_treating.2.1 22 = .ok (.iload_n 2, 1) := by decide +kernel
theorem d_X8_treating_23 : decode mi_X8_treating.2.1 23 = .ok (.aload_n 0, 1) := by decide +kernel
theorem d_X8_treating_24 : decode mi_X8_treating.2.1 24 = .ok (.getfield 98, 3) := by decide +kernel
theorem d_X8_treating_27 : decode mi_X8_treating.2.1 27 = .ok (.iload_n 3, 1) := by decide +kernel
theorem d_X8_treating_28 : decode mi_X8_treating.2.1 28 = .ok (.iaload, 1) := by decide +kernel
theorem d_X8_treating_29 : decode mi_X8_treating.2.1 29 = .ok (.invokestatic 264, 3) := by decide +kernel
theorem d_X8_treating_32 : decode mi_X8_treating.2.1 32 = .ok (.iadd, 1) := by decide +kernel
theorem d_X8_treating_33 : decode mi_X8_treating.2.1 33 = .ok (.istore 5, 2) := by decide +kernel
theorem d_X8_treating_35 : decode mi_X8_treating.2.1 35 = .ok (.iconst 0, 1) := by decide +kernel
theorem d_X8_treating_36 : decode mi_X8_treating.2.1 36 = .ok (.istore 6, 2) := by decide +kernel
theorem d_X8_treating_38 : decode mi_X8_treating.2.1 38 = .ok (.iload 6, 2) := by decide +kernel
theorem d_X8_treating_40 : decode mi_X8_treating.2.1 40 = .ok (.aload_n 0, 1) := by decide +kernel
theorem d_X8_treating_41 : decode mi_X8_treating.2.1 41 = .ok (.getfield 261, 3) := by decide +kernel
theorem d_X8_treating_44 : decode mi_X8_treating.2.1 44 = .ok (.if_icmp .ge 69, 3) := by decide +kernel
theorem d_X8_treating_47 : decode mi_X8_treating.2.1 47 = .ok (.aload_n 0, 1) := by decide +kernel
theorem d_X8_treating_48 : decode mi_X8_treating.2.1 48 = .ok (.iload 6, 2) := by decide +kernel
theorem d_X8_treating_50 : decode mi_X8_treating.2.1 50 = .ok (.iload_n 1, 1) := by decide +kernel
theorem d_X8_treating_51 : decode mi_X8_treating.2.1 51 = .ok (.iload_n 2, 1) := by decide +kernel
theorem d_X8_treating_52 : decode mi_X8_treating.2.1 52 = .ok (.invokevirtual 267, 3) := by decide +kernel
theorem d_X8_treating_55 : decode mi_X8_treating.2.1 55 = .ok (.bipush (-4), 2) := by decide +kernel
theorem d_X8_treating_57 : decode mi_X8_treating.2.1 57 = .ok (.if_icmp .eq 50, 3) := by decide +kernel
theorem d_X8_treating_60 : decode mi_X8_treating.2.1 60 = .ok (.iload_n 1, 1) := by decide +kernel
theorem d_X8_treating_61 : decode mi_X8_treating.2.1 61 = .ok (.aload_n 0, 1) := by decide +kernel
theorem d_X8_treating_62 : decode mi_X8_treating.2.1 62 = .ok (.getfield 95, 3) := by decide +kernel
theorem d_X8_treating_65 : decode mi_X8_treating.2.1 65 = .ok (.iload 6, 2) := by decide +kernel
theorem d_X8_treating_67 : decode mi_X8_treating.2.1 67 = .ok (.iaload, 1) := by decide +kernel
theorem d_X8_treating_68 : decode mi_X8_treating.2.1 68 = .ok (.invokestatic 264, 3) := by decide +kernel
theorem d_X8_treating_71 : decode mi_X8_treating.2.1 71 = .ok (.iload_n 2, 1) := by decide +kernel
theorem d_X8_treating_72 : decode mi_X8_treating.2.1 72 = .ok (.aload_n 0, 1) := by decide +kernel
theorem d_X8_treating_73 : decode mi_X8_treating.2.1 73 = .ok (.getfield 98, 3) := by decide +kernel
theorem d_X8_treating_76 : decode mi_X8_treating.2.1 76 = .ok (.iload 6, 2) := by decide +kernel
theorem d_X8_treating_78 : decode mi_X8_treating.2.1 78 = .ok (.iaload, 1) := by decide +kernel
theorem d_X8_treating_79 : decode mi_X8_treating.2.1 79 = .ok (.invokestatic 264, 3) := by decide +kernel
theorem d_X8_treating_82 : decode mi_X8_treating.2.1 82 = .ok (.iadd, 1) := by decide +kernel
theorem d_X8_treating_83 : decode mi_X8_treating.2.1 83 = .ok (.iload 5, 2) := by decide +kernel
theorem d_X8_treating_85 : decode mi_X8_treating.2.1 85 = .ok (.if_icmp .ne 22, 3) := by decide +kernel
theorem d_X8_treating_88 : decode mi_X8_treating.2.1 88 = .ok (.iload_n 1, 1) := by decide +kernel
theorem d_X8_treating_89 : decode mi_X8_treating.2.1 89 = .ok (.aload_n 0, 1) := by decide +kernel
theorem d_X8_treating_90 : decode mi_X8_treating.2.1 90 = .ok (.getfield 95, 3) := by decide +kernel
theorem d_X8_treating_93 : decode mi_X8_treating.2.1 93 = .ok (.iload 6, 2) := by decide +kernel
theorem d_X8_treating_95 : decode mi_X8_treating.2.1 95 = .ok (.iaload, 1) := by decide +kernel
theorem d_X8_treating_96 : decode mi_X8_treating.2.1 96 = .ok (.invokestatic 264, 3) := by decide +kernel
theorem d_X8_treating_99 : decode mi_X8_treating.2.1 99 = .ok (.iload 4, 2) := by decide +kernel
theorem d_X8_treating_101 : decode mi_X8_treating.2.1 101 = .ok (.if_icmp .eq 6, 3) := by decide +kernel
theorem d_X8_treating_104 : decode mi_X8_treating.2.1 104 = .ok (.bipush (-5), 2) := by decide +kernel
theorem d_X8_treating_106 : decode mi_X8_treating.2.1 106 = .ok (.ireturn, 1) := by decide +kernel
theorem d_X8_treating_107 : decode mi_X8_treating.2.1 107 = .ok (.iinc 6 1, 3) := by decide +kernel
theorem d_X8_treating_110 : decode mi_X8_treating.2.1 110 = .ok (.goto (-72), 3) := by decide +kernel
theorem d_X8_treating_113 : decode mi_X8_treating.2.1 113 = .ok (.iload_n 3, 1) := by decide +kernel
theorem d_X8_treating_114 : decode mi_X8_treating.2.1 114 = .ok (.ireturn, 1) := by decide +kernel
def f_X8_treating_107 (K38 : Int32 → Int32 → Int32 → Int32 → Int32 → Int32 → SS → Option (Int32 × SS)) (v1 : Int32) (v2 : Int32) (v3 : Int32) (v4 : Int32) (v5 : Int32) (v6 : Int32) (σ : SS) : Option (Int32 × SS) := lt_ (v6 + (1 : Int32)) (fun x1 => K38 v1 v2 v3 v4 v5 x1 σ)
set_option maxRecDepth 20000 in
theorem t_X8_treating_107 {d : Nat} {X : MX} {Y : MY} {b : Nat × Nat} {r : Int32} {σ' : SS} {K38 : Int32 → Int32 → Int32 → Int32 → Int32 → Int32 → SS → Option (Int32 × SS)} {v1 : Int32} {v2 : Int32} {v3 : Int32} {v4 : Int32} {v5 : Int32} {v6 : Int32} (hK38 : ∀ (v1 : Int32) (v2 : Int32) (v3 : Int32) (v4 : Int32) (v5 : Int32) (v6 : Int32) (σ : SS), K38 v1 v2 v3 v4 v5 v6 σ = some (r, σ') → WM (d + 4) X Y b mi_X8_treating 38 [some (vR 25 0), some (vI v1), some (vI v2), some (vI v3), some (vI v4), some (vI v5), some (vI v6)] [] σ (some (vI r), σ')) {σ : SS} (h : f_X8_treating_107 K38 v1 v2 v3 v4 v5 v6 σ = some (r, σ')) : WM (d + 4) X Y b mi_X8_treating 107 [some (vR 25 0), some (vI v1), some (vI v2), some (vI v3), some (vI v4), some (vI v5), some (vI v6)] [] σ (some (vI r), σ') := by
  rw [f_X8_treating_107] at h
  refine l_iinc (pc' := 110) d_X8_treating_107 rfl ci_1 rfl rfl rfl h (fun x1 h => ?_)
  refine r_goto (pc' := 38) d_X8_treating_110 rfl ?_
  exact WM.drop [] rfl (hK38 _ _ _ _ _ _ _ h)
def f_X8_treating_38 : Nat → Int32 → Int32 → Int32 → Int32 → Int32 → Int32 → SS → Option (Int32 × SS)
  | 0, _, _, _, _, _, _, _ => none
  | n + 1, v1, v2, v3, v4, v5, v6, σ => if (σ.1 25 0 35) ≤ v6 then (some (v3, σ)) else (cal (f_X8_rank v6 v1 v2 σ) (fun x2 s1 => if x2 = (-4 : Int32) then (f_X8_treating_107 (f_X8_treating_38 n) v1 v2 v3 v4 v5 v6 s1) else (chk (inr v6 40) (cal (f_X8_steps v1 (s1.1 76 0 (ix v6)) s1) (fun x4 s3 => chk (inr v6 40) (cal (f_X8_steps v2 (s3.1 77 0 (ix v6)) s3) (fun x6 s5 => if (x4 + x6) = v5 then (chk (inr v6 40) (cal (f_X8_steps v1 (s5.1 76 0 (ix v6)) s5) (fun x8 s7 => if x8 = v4 then (f_X8_treating_107 (f_X8_treating_38 n) v1 v2 v3 v4 v5 v6 s7) else (some ((-5 : Int32), s7))))) else (f_X8_treating_107 (f_X8_treating_38 n) v1 v2 v3 v4 v5 v6 s5))))))))
set_option maxRecDepth 20000 in
theorem t_X8_treating_38 {d : Nat} {X : MX} {Y : MY} {b : Nat × Nat} {r : Int32} {σ' : SS} : ∀ (n : Nat) (v1 : Int32) (v2 : Int32) (v3 : Int32) (v4 : Int32) (v5 : Int32) (v6 : Int32) (σ : SS), f_X8_treating_38 n v1 v2 v3 v4 v5 v6 σ = some (r, σ') → WM (d + 4) X Y b mi_X8_treating 38 [some (vR 25 0), some (vI v1), some (vI v2), some (vI v3), some (vI v4), some (vI v5), some (vI v6)] [] σ (some (vI r), σ') := by
  intro n
  induction n with
  | zero => intro _ _ _ _ _ _ σ h; cases h
  | succ n ih =>
    intro v1 v2 v3 v4 v5 v6 σ h
    rw [f_X8_treating_38] at h
    refine r_iload (pc' := 40) d_X8_treating_38 rfl rfl ?_
    refine r_aload_n (pc' := 41) d_X8_treating_40 rfl rfl rfl ?_
    refine r_get (v := vI _) (pc' := 44) fl_X8_261 d_X8_treating_41 rfl rfl (fun _ => trivial) rfl ?_
    refine r_icmp_ge (pcT := 113) (pc' := 47) d_X8_treating_44 rfl rfl h (fun _ h => ?_) (fun _ h => ?_)
    · refine r_iload_n (pc' := 114) d_X8_treating_113 rfl rfl rfl ?_
      exact r_iret d_X8_treating_114 rfl h
    · refine r_aload_n (pc' := 48) d_X8_treating_47 rfl rfl rfl ?_
      refine r_iload (pc' := 50) d_X8_treating_48 rfl rfl ?_
      refine r_iload_n (pc' := 51) d_X8_treating_50 rfl rfl rfl ?_
      refine r_iload_n (pc' := 52) d_X8_treating_51 rfl rfl rfl ?_
      refine v3_i (mc := mi_X8_rank) (bc := (0, 0)) (b' := _) (pc' := 55) cw_X8_267 d_X8_treating_52 rfl rfl rfl (Nat.zero_add _).symm (Nat.zero_add _).symm rfl h (fun _ _ e => t_X8_rank e) (fun x2 s1 h => ?_)
      refine r_bipush (pc' := 57) d_X8_treating_55 cb_m4 rfl ?_
      refine r_icmp_eq (pcT := 107) (pc' := 60) d_X8_treating_57 rfl rfl h (fun _ h => ?_) (fun _ h => ?_)
      · exact WM.drop [] rfl (t_X8_treating_107 ih h)
      · refine r_iload_n (pc' := 61) d_X8_treating_60 rfl rfl rfl ?_
        refine r_aload_n (pc' := 62) d_X8_treating_61 rfl rfl rfl ?_
        refine r_get (v := vR 76 _) (pc' := 65) fl_X8_95 d_X8_treating_62 rfl rfl (fun g => Or.inl ⟨rfl, g.2⟩) rfl ?_
        refine r_iload (pc' := 67) d_X8_treating_65 rfl rfl ?_
        refine r_iaload (pc' := 68) d_X8_treating_67 rfl (fun _ => rfl) rfl h (fun h => ?_)
        refine s2_i (mc := mi_X8_steps) (bc := (0, 0)) (b' := _) (pc' := 71) cw_X8_264 d_X8_treating_68 rfl (Nat.zero_add _).symm (Nat.zero_add _).symm rfl h (fun _ _ e => t_X8_steps e) (fun x4 s3 h => ?_)
        refine r_iload_n (pc' := 72) d_X8_treating_71 rfl rfl rfl ?_
        refine r_aload_n (pc' := 73) d_X8_treating_72 rfl rfl rfl ?_
        refine r_get (v := vR 77 _) (pc' := 76) fl_X8_98 d_X8_treating_73 rfl rfl (fun g => Or.inl ⟨rfl, g.2⟩) rfl ?_
        refine r_iload (pc' := 78) d_X8_treating_76 rfl rfl ?_
        refine r_iaload (pc' := 79) d_X8_treating_78 rfl (fun _ => rfl) rfl h (fun h => ?_)
        refine s2_i (mc := mi_X8_steps) (bc := (0, 0)) (b' := _) (pc' := 82) cw_X8_264 d_X8_treating_79 rfl (Nat.zero_add _).symm (Nat.zero_add _).symm rfl h (fun _ _ e => t_X8_steps e) (fun x6 s5 h => ?_)
        refine r_iadd (pc' := 83) d_X8_treating_82 rfl ?_
        refine r_iload (pc' := 85) d_X8_treating_83 rfl rfl ?_
        refine r_icmp_ne (pcT := 107) (pc' := 88) d_X8_treating_85 rfl rfl h (fun _ h => ?_) (fun _ h => ?_)
        · refine r_iload_n (pc' := 89) d_X8_treating_88 rfl rfl rfl ?_
          refine r_aload_n (pc' := 90) d_X8_treating_89 rfl rfl rfl ?_
          refine r_get (v := vR 76 _) (pc' := 93) fl_X8_95 d_X8_treating_90 rfl rfl (fun g => Or.inl ⟨rfl, g.2⟩) rfl ?_
          refine r_iload (pc' := 95) d_X8_treating_93 rfl rfl ?_
          refine r_iaload (pc' := 96) d_X8_treating_95 rfl (fun _ => rfl) rfl h (fun h => ?_)
          refine s2_i (mc := mi_X8_steps) (bc := (0, 0)) (b' := _) (pc' := 99) cw_X8_264 d_X8_treating_96 rfl (Nat.zero_add _).symm (Nat.zero_add _).symm rfl h (fun _ _ e => t_X8_steps e) (fun x8 s7 h => ?_)
          refine r_iload (pc' := 101) d_X8_treating_99 rfl rfl ?_
          refine r_icmp_eq (pcT := 107) (pc' := 104) d_X8_treating_101 rfl rfl h (fun _ h => ?_) (fun _ h => ?_)
          · exact WM.drop [] rfl (t_X8_treating_107 ih h)
          · refine r_bipush (pc' := 106) d_X8_treating_104 cb_m5 rfl ?_
            exact r_iret d_X8_treating_106 rfl h
        · exact WM.drop [] rfl (t_X8_treating_107 ih h)
def f_X8_treating (v1 : Int32) (v2 : Int32) (σ : SS) : Option (Int32 × SS) := cal (f_X8_nth v1 v2 (0 : Int32) σ) (fun x2 s1 => chk (inr x2 40) (cal (f_X8_steps v1 (s1.1 76 0 (ix x2)) s1) (fun x4 s3 => chk (inr x2 40) (cal (f_X8_steps v2 (s3.1 77 0 (ix x2)) s3) (fun x6 s5 => lt_ (x4 + x6) (fun x7 => f_X8_treating_38 FU v1 v2 x2 x4 x7 (0 : Int32) s5))))))
set_option maxRecDepth 20000 in
theorem t_X8_treating {d : Nat} {b : Nat × Nat} {v1 : Int32} {v2 : Int32} {σ : SS} {r : Int32} {σ' : SS} (h : f_X8_treating v1 v2 σ = some (r, σ')) : MM (d + 4) b mi_X8_treating [vR 25 0, vI v1, vI v2] σ (some (vI r), σ') := by
  refine MM.of (lv := [some (vR 25 0), some (vI v1), some (vI v2), none, none, none, none]) (by decide +kernel) rfl rfl (fun X Y => ?_)
  rw [f_X8_treating] at h
  refine r_aload_n (pc' := 1) d_X8_treating_0 rfl rfl rfl ?_
  refine r_iload_n (pc' := 2) d_X8_treating_1 rfl rfl rfl ?_
  refine r_iload_n (pc' := 3) d_X8_treating_2 rfl rfl rfl ?_
  refine r_iconst (pc' := 4) d_X8_treating_3 ci_0 rfl ?_
  refine v3_i (mc := mi_X8_nth) (bc := (0, 0)) (b' := _) (pc' := 7) cw_X8_276 d_X8_treating_4 rfl rfl rfl (Nat.zero_add _).symm (Nat.zero_add _).symm rfl h (fun _ _ e => t_X8_nth e) (fun x2 s1 h => ?_)
  refine r_istore_n (pc' := 8) d_X8_treating_7 rfl rfl rfl rfl ?_
  refine r_iload_n (pc' := 9) d_X8_treating_8 rfl rfl rfl ?_
  refine r_aload_n (pc' := 10) d_X8_treating_9 rfl rfl rfl ?_
  refine r_get (v := vR 76 _) (pc' := 13) fl_X8_95 d_X8_treating_10 rfl rfl (fun g => Or.inl ⟨rfl, g.2⟩) rfl ?_
  refine r_iload_n (pc' := 14) d_X8_treating_13 rfl rfl rfl ?_
  refine r_iaload (pc' := 15) d_X8_treating_14 rfl (fun _ => rfl) rfl h (fun h => ?_)
  refine s2_i (mc := mi_X8_steps) (bc := (0, 0)) (b' := _) (pc' := 18) cw_X8_264 d_X8_treating_15 rfl (Nat.zero_add _).symm (Nat.zero_add _).symm rfl h (fun _ _ e => t_X8_steps e) (fun x4 s3 h => ?_)
  refine r_istore (pc' := 20) d_X8_treating_18 rfl rfl rfl ?_
  refine r_iload (pc' := 22) d_X8_treating_20 rfl rfl ?_
  refine r_iload_n (pc' := 23) d_X8_treating_22 rfl rfl rfl ?_
  refine r_aload_n (pc' := 24) d_X8_treating_23 rfl rfl rfl ?_
  refine r_get (v := vR 77 _) (pc' := 27) fl_X8_98 d_X8_treating_24 rfl rfl (fun g => Or.inl ⟨rfl, g.2⟩) rfl ?_
  refine r_iload_n (pc' := 28) d_X8_treating_27 rfl rfl rfl ?_
  refine r_iaload (pc' := 29) d_X8_treating_28 rfl (fun _ => rfl) rfl h (fun h => ?_)
  refine s2_i (mc := mi_X8_steps) (bc := (0, 0)) (b' := _) (pc' := 32) cw_X8_264 d_X8_treating_29 rfl (Nat.zero_add _).symm (Nat.zero_add _).symm rfl h (fun _ _ e => t_X8_steps e) (fun x6 s5 h => ?_)
  refine r_iadd (pc' := 33) d_X8_treating_32 rfl ?_
  refine l_istore (pc' := 35) d_X8_treating_33 rfl rfl rfl h (fun x7 h => ?_)
  refine r_iconst (pc' := 36) d_X8_treating_35 ci_0 rfl ?_
  refine r_istore (pc' := 38) d_X8_treating_36 rfl rfl rfl ?_
  exact WM.drop [] rfl (t_X8_treating_38 _ _ _ _ _ _ _ _ h)
/-! OctagonYardModel.treats(II)I -/
def mi_X8_treats : MI := (yX8_treats, cX8_treats, 3, (some .int))
theorem d_X8_treats_0 : decode mi_X8_treats.2.1 0 = .ok (.iload_n 1, 1) := by decide +kernel
theorem d_X8_treats_1 : decode mi_X8_treats.2.1 1 = .ok (.invokestatic 273, 3) := by decide +kernel
theorem d_X8_treats_4 : decode mi_X8_treats.2.1 4 = .ok (.ifCond .eq 19, 3) := by decide +kernel
theorem d_X8_treats_7 : decode mi_X8_treats.2.1 7 = .ok (.iload_n 2, 1) := by decide +kernel
theorem d_X8_treats_8 : decode mi_X8_treats.2.1 8 = .ok (.invokestatic 273, 3) := by decide +kernel
theorem d_X8_treats_11 : decode mi_X8_treats.2.1 11 = .ok (.ifCond .eq 12, 3) := by decide +kernel
theorem d_X8_treats_14 : decode mi_X8_treats.2.1 14 = .ok (.aload_n 0, 1) := by decide +kernel
theorem d_X8_treats_15 : decode mi_X8_treats.2.1 15 = .ok (.iload_n 1, 1) := by decide +kernel
theorem d_X8_treats_16 : decode mi_X8_treats.2.1 16 = .ok (.iload_n 2, 1) := by decide +kernel
theorem d_X8_treats_17 : decode mi_X8_treats.2.1 17 = .ok (.invokevirtual 279, 3) := by decide +kernel
theorem d_X8_treats_20 : decode mi_X8_treats.2.1 20 = .ok (.goto 4, 3) := by decide +kernel
theorem d_X8_treats_23 : decode mi_X8_treats.2.1 23 = .ok (.iconst (-1), 1) := by decide +kernel
theorem d_X8_treats_24 : decode mi_X8_treats.2.1 24 = .ok (.ireturn, 1) := by decide +kernel
theorem cw_X8_279 : CV RX8 279 mi_X8_treating 2 := by unfold CV; decide +kernel
def f_X8_treats (v1 : Int32) (v2 : Int32) (σ : SS) : Option (Int32 × SS) := cal (f_X8_isKind v1 σ) (fun x2 s1 => if x2 = 0 then (some ((-1 : Int32), s1)) else (cal (f_X8_isKind v2 s1) (fun x4 s3 => if x4 = 0 then (some ((-1 : Int32), s3)) else (cal (f_X8_treating v1 v2 s3) (fun x6 s5 => some (x6, s5))))))
set_option maxRecDepth 20000 in
theorem t_X8_treats {d : Nat} {b : Nat × Nat} {v1 : Int32} {v2 : Int32} {σ : SS} {r : Int32} {σ' : SS} (h : f_X8_treats v1 v2 σ = some (r, σ')) : MM (d + 5) b mi_X8_treats [vR 25 0, vI v1, vI v2] σ (some (vI r), σ') := by
  refine MM.of (lv := [some (vR 25 0), some (vI v1), some (vI v2)]) (by decide +kernel) rfl rfl (fun X Y => ?_)
  rw [f_X8_treats] at h
  refine r_iload_n (pc' := 1) d_X8_treats_0 rfl rfl rfl ?_
  refine s1_i (mc := mi_X8_isKind) (bc := (0, 0)) (b' := _) (pc' := 4) cw_X8_273 d_X8_treats_1 rfl (Nat.zero_add _).symm (Nat.zero_add _).symm rfl h (fun _ _ e => t_X8_isKind e) (fun x2 s1 h => ?_)
  refine r_if_eq (pcT := 23) (pc' := 7) d_X8_treats_4 rfl rfl h (fun _ h => ?_) (fun _ h => ?_)
  · refine r_iconst (pc' := 24) d_X8_treats_23 ci_m1 rfl ?_
    exact r_iret d_X8_treats_24 rfl h
  · refine r_iload_n (pc' := 8) d_X8_treats_7 rfl rfl rfl ?_
    refine s1_i (mc := mi_X8_isKind) (bc := (0, 0)) (b' := _) (pc' := 11) cw_X8_273 d_X8_treats_8 rfl (Nat.zero_add _).symm (Nat.zero_add _).symm rfl h (fun _ _ e => t_X8_isKind e) (fun x4 s3 h => ?_)
    refine r_if_eq (pcT := 23) (pc' := 14) d_X8_treats_11 rfl rfl h (fun _ h => ?_) (fun _ h => ?_)
    · refine r_iconst (pc' := 24) d_X8_treats_23 ci_m1 rfl ?_
      exact r_iret d_X8_treats_24 rfl h
    · refine r_aload_n (pc' := 15) d_X8_treats_14 rfl rfl rfl ?_
      refine r_iload_n (pc' := 16) d_X8_treats_15 rfl rfl rfl ?_
      refine r_iload_n (pc' := 17) d_X8_treats_16 rfl rfl rfl ?_
      refine v2_i (mc := mi_X8_treating) (bc := (0, 0)) (b' := _) (pc' := 20) cw_X8_279 d_X8_treats_17 rfl rfl rfl (Nat.zero_add _).symm (Nat.zero_add _).symm rfl h (fun _ _ e => t_X8_treating e) (fun x6 s5 h => ?_)
      refine r_goto (pc' := 24) d_X8_treats_20 rfl ?_
      exact r_iret d_X8_treats_24 rfl h
/-! OctagonYardModel.undecided()I -/
def mi_X8_undecided : MI := (yX8_undecided, cX8_undecided, 4, (some .int))
theorem d_X8_undecided_0 : decode mi_X8_undecided.2.1 0 = .ok (.iconst 0, 1) := by decide +kernel
theorem d_X8_undecided_1 : decode mi_X8_undecided.2.1 1 = .ok (.istore_n 1, 1) := by decide +kernel
theorem d_X8_undecided_2 : decode mi_X8_undecided.2.1 2 = .ok (.iconst 0, 1) := by decide +kernel
theorem d_X8_undecided_3 : decode mi_X8_undecided.2.1 3 = .ok (.istore_n 2, 1) := by decide +kernel
theorem d_X8_undecided_4 : decode mi_X8_undecided.2.1 4 = .ok (.iload_n 2, 1) := by decide +kernel
theorem d_X8_undecided_5 : decode mi_X8_undecided.2.1 5 = .ok (.bipush 6, 2) := by decide +kernel
theorem d_X8_undecided_7 : decode mi_X8_undecided.2.1 7 = .ok (.if_icmp .ge 42, 3) := by decide +kernel
theorem d_X8_undecided_10 : decode mi_X8_undecided.2.1 10 = .ok (.iconst 0, 1) := by decide +kernel
theorem d_X8_undecided_11 : decode mi_X8_undecided.2.1 11 = .ok (.istore_n 3, 1) := by decide +kernel
theorem d_X8_undecided_12 : decode mi_X8_undecided.2.1 12 = .ok (.iload_n 3, 1) := by decide +kernel
theorem d_X8_undecided_13 : decode mi_X8_undecided.2.1 13 = .ok (.bipush 6, 2) := by decide +kernel
theorem d_X8_undecided_15 : decode mi_X8_undecided.2.1 15 = .ok (.if_icmp .ge 28, 3) := by decide +kernel
theorem d_X8_undecided_18 : decode mi_X8_undecided.2.1 18 = .ok (.iload_n 1, 1) := by decide +kernel
theorem d_X8_undecided_19 : decode mi_X8_undecided.2.1 19 = .ok (.aload_n 0, 1) := by decide +kernel
theorem d_X8_undecided_20 : decode mi_X8_undecided.2.1 20 = .ok (.iload_n 2, 1) := by decide +kernel
theorem d_X8_undecided_21 : decode mi_X8_undecided.2.1 21 = .ok (.iload_n 3, 1) := by decide +kernel
theorem d_X8_undecided_22 : decode mi_X8_undecided.2.1 22 = .ok (.invokevirtual 279, 3) := by decide +kernel
theorem d_X8_undecided_25 : decode mi_X8_undecided.2.1 25 = .ok (.bipush (-5), 2) := by decide +kernel
theorem d_X8_undecided_27 : decode mi_X8_undecided.2.1 27 = .ok (.if_icmp .ne 7, 3) := by decide +kernel
theorem d_X8_undecided_30 : decode mi_X8_undecided.2.1 30 = .ok (.iconst 1, 1) := by decide +kernel
theorem d_X8_undecided_31 : decode mi_X8_undecided.2.1 31 = .ok (.goto 4, 3) := by decide +kernel
theorem d_X8_undecided_34 : decode mi_X8_undecided.2.1 34 = .ok (.iconst 0, 1) := by decide +kernel
theorem d_X8_undecided_35 : decode mi_X8_undecided.2.1 35 = .ok (.iadd, 1) := by decide +kernel
theorem d_X8_undecided_36 : decode mi_X8_undecided.2.1 36 = .ok (.istore_n 1, 1) := by decide +kernel
theorem d_X8_undecided_37 : decode mi_X8_undecided.2.1 37 = .ok (.iinc 3 1, 3) := by decide +kernel
theorem d_X8_undecided_40 : decode mi_X8_undecided.2.1 40 = .ok (.goto (-28), 3) := by decide +kernel
theorem d_X8_undecided_43 : decode mi_X8_undecided.2.1 43 = .ok (.iinc 2 1, 3) := by decide +kernel
theorem d_X8_undecided_46 : decode mi_X8_undecided.2.1 46 = .ok (.goto (-42), 3) := by decide +kernel
theorem d_X8_undecided_49 : decode mi_X8_undecided.2.1 49 = .ok (.iload_n 1, 1) := by decide +kernel
theorem d_X8_undecided_50 : decode mi_X8_undecided.2.1 50 = .ok (.ireturn, 1) := by decide +kernel
def f_X8_undecided_43 (K4 : Int32 → Int32 → SS → Option (Int32 × SS)) (v1 : Int32) (v2 : Int32) (σ : SS) : Option (Int32 × SS) := lt_ (v2 + (1 : Int32)) (fun x1 => K4 v1 x1 σ)
set_option maxRecDepth 20000 in
theorem t_X8_undecided_43 {d : Nat} {X : MX} {Y : MY} {b : Nat × Nat} {r : Int32} {σ' : SS} {K4 : Int32 → Int32 → SS → Option (Int32 × SS)} {v1 : Int32} {v2 : Int32} (hK4 : ∀ (v1 : Int32) (v2 : Int32) (σ : SS), K4 v1 v2 σ = some (r, σ') → WM (d + 5) X Y b mi_X8_undecided 4 [some (vR 25 0), some (vI v1), some (vI v2), none] [] σ (some (vI r), σ')) {σ : SS} (h : f_X8_undecided_43 K4 v1 v2 σ = some (r, σ')) : WM (d + 5) X Y b mi_X8_undecided 43 [some (vR 25 0), some (vI v1), some (vI v2), none] [] σ (some (vI r), σ') := by
  rw [f_X8_undecided_43] at h
  refine l_iinc (pc' := 46) d_X8_undecided_43 rfl ci_1 rfl rfl rfl h (fun x1 h => ?_)
  refine r_goto (pc' := 4) d_X8_undecided_46 rfl ?_
  exact WM.drop [] rfl (hK4 _ _ _ h)
def f_X8_undecided_35 (K4 : Int32 → Int32 → SS → Option (Int32 × SS)) (K12 : Int32 → Int32 → Int32 → SS → Option (Int32 × SS)) (v2 : Int32) (v3 : Int32) (u0 : Int32) (u1 : Int32) (σ : SS) : Option (Int32 × SS) := lt_ (u0 + u1) (fun x1 => lt_ (v3 + (1 : Int32)) (fun x2 => K12 x1 v2 x2 σ))
set_option maxRecDepth 20000 in
theorem t_X8_undecided_35 {d : Nat} {X : MX} {Y : MY} {b : Nat × Nat} {r : Int32} {σ' : SS} {K4 : Int32 → Int32 → SS → Option (Int32 × SS)} {K12 : Int32 → Int32 → Int32 → SS → Option (Int32 × SS)} {v2 : Int32} {v3 : Int32} {u0 : Int32} {u1 : Int32} (hK4 : ∀ (v1 : Int32) (v2 : Int32) (σ : SS), K4 v1 v2 σ = some (r, σ') → WM (d + 5) X Y b mi_X8_undecided 4 [some (vR 25 0), some (vI v1), some (vI v2), none] [] σ (some (vI r), σ')) (hK12 : ∀ (v1 : Int32) (v2 : Int32) (v3 : Int32) (σ : SS), K12 v1 v2 v3 σ = some (r, σ') → WM (d + 5) X Y b mi_X8_undecided 12 [some (vR 25 0), some (vI v1), some (vI v2), some (vI v3)] [] σ (some (vI r), σ')) {σ : SS} (h : f_X8_undecided_35 K4 K12 v2 v3 u0 u1 σ = some (r, σ')) : WM (d + 5) X Y b mi_X8_undecided 35 [some (vR 25 0), none, some (vI v2), some (vI v3)] [vI u1, vI u0] σ (some (vI r), σ') := by
  rw [f_X8_undecided_35] at h
  refine r_iadd (pc' := 36) d_X8_undecided_35 rfl ?_
  refine l_istore_n (pc' := 37) d_X8_undecided_36 rfl rfl rfl rfl h (fun x1 h => ?_)
  refine l_iinc (pc' := 40) d_X8_undecided_37 rfl ci_1 rfl rfl rfl h (fun x2 h => ?_)
  refine r_goto (pc' := 12) d_X8_undecided_40 rfl ?_
  exact WM.drop [] rfl (hK12 _ _ _ _ h)
def f_X8_undecided_12 (K4 : Int32 → Int32 → SS → Option (Int32 × SS)) : Nat → Int32 → Int32 → Int32 → SS → Option (Int32 × SS)
  | 0, _, _, _, _ => none
  | n + 1, v1, v2, v3, σ => if (6 : Int32) ≤ v3 then (f_X8_undecided_43 K4 v1 v2 σ) else (cal (f_X8_treating v2 v3 σ) (fun x2 s1 => if x2 = (-5 : Int32) then (f_X8_undecided_35 K4 (f_X8_undecided_12 K4 n) v2 v3 v1 (1 : Int32) s1) else (f_X8_undecided_35 K4 (f_X8_undecided_12 K4 n) v2 v3 v1 (0 : Int32) s1)))
set_option maxRecDepth 20000 in
theorem t_X8_undecided_12 {d : Nat} {X : MX} {Y : MY} {b : Nat × Nat} {r : Int32} {σ' : SS} {K4 : Int32 → Int32 → SS → Option (Int32 × SS)} (hK4 : ∀ (v1 : Int32) (v2 : Int32) (σ : SS), K4 v1 v2 σ = some (r, σ') → WM (d + 5) X Y b mi_X8_undecided 4 [some (vR 25 0), some (vI v1), some (vI v2), none] [] σ (some (vI r), σ')) : ∀ (n : Nat) (v1 : Int32) (v2 : Int32) (v3 : Int32) (σ : SS), f_X8_undecided_12 K4 n v1 v2 v3 σ = some (r, σ') → WM (d + 5) X Y b mi_X8_undecided 12 [some (vR 25 0), some (vI v1), some (vI v2), some (vI v3)] [] σ (some (vI r), σ') := by
  intro n
  induction n with
  | zero => intro _ _ _ σ h; cases h
  | succ n ih =>
    intro v1 v2 v3 σ h
    rw [f_X8_undecided_12] at h
    refine r_iload_n (pc' := 13) d_X8_undecided_12 rfl rfl rfl ?_
    refine r_bipush (pc' := 15) d_X8_undecided_13 cb_6 rfl ?_
    refine r_icmp_ge (pcT := 43) (pc' := 18) d_X8_undecided_15 rfl rfl h (fun _ h => ?_) (fun _ h => ?_)
    · exact WM.drop [3] rfl (t_X8_undecided_43 hK4 h)
    · refine r_iload_n (pc' := 19) d_X8_undecided_18 rfl rfl rfl ?_
      refine r_aload_n (pc' := 20) d_X8_undecided_19 rfl rfl rfl ?_
      refine r_iload_n (pc' := 21) d_X8_undecided_20 rfl rfl rfl ?_
      refine r_iload_n (pc' := 22) d_X8_undecided_21 rfl rfl rfl ?_
      refine v2_i (mc := mi_X8_treating) (bc := (0, 0)) (b' := _) (pc' := 25) cw_X8_279 d_X8_undecided_22 rfl rfl rfl (Nat.zero_add _).symm (Nat.zero_add _).symm rfl h (fun _ _ e => t_X8_treating e) (fun x2 s1 h => ?_)
      refine r_bipush (pc' := 27) d_X8_undecided_25 cb_m5 rfl ?_
      refine r_icmp_ne (pcT := 34) (pc' := 30) d_X8_undecided_27 rfl rfl h (fun _ h => ?_) (fun _ h => ?_)
      · refine r_iconst (pc' := 31) d_X8_undecided_30 ci_1 rfl ?_
        refine r_goto (pc' := 35) d_X8_undecided_31 rfl ?_
        exact WM.drop [1] rfl (t_X8_undecided_35 hK4 ih h)
      · refine r_iconst (pc' := 35) d_X8_undecided_34 ci_0 rfl ?_
        exact WM.drop [1] rfl (t_X8_undecided_35 hK4 ih h)
def f_X8_undecided_4 : Nat → Int32 → Int32 → SS → Option (Int32 × SS)
  | 0, _, _, _ => none
  | n + 1, v1, v2, σ => if (6 : Int32) ≤ v2 then (some (v1, σ)) else (f_X8_undecided_12 (f_X8_undecided_4 n) FU v1 v2 (0 : Int32) σ)
set_option maxRecDepth 20000 in
theorem t_X8_undecided_4 {d : Nat} {X : MX} {Y : MY} {b : Nat × Nat} {r : Int32} {σ' : SS} : ∀ (n : Nat) (v1 : Int32) (v2 : Int32) (σ : SS), f_X8_undecided_4 n v1 v2 σ = some (r, σ') → WM (d + 5) X Y b mi_X8_undecided 4 [some (vR 25 0), some (vI v1), some (vI v2), none] [] σ (some (vI r), σ') := by
  intro n
  induction n with
  | zero => intro _ _ σ h; cases h
  | succ n ih =>
    intro v1 v2 σ h
    rw [f_X8_undecided_4] at h
    refine r_iload_n (pc' := 5) d_X8_undecided_4 rfl rfl rfl ?_
    refine r_bipush (pc' := 7) d_X8_undecided_5 cb_6 rfl ?_
    refine r_icmp_ge (pcT := 49) (pc' := 10) d_X8_undecided_7 rfl rfl h (fun _ h => ?_) (fun _ h => ?_)
    · refine r_iload_n (pc' := 50) d_X8_undecided_49 rfl rfl rfl ?_
      exact r_iret d_X8_undecided_50 rfl h
    · refine r_iconst (pc' := 11) d_X8_undecided_10 ci_0 rfl ?_
      refine r_istore_n (pc' := 12) d_X8_undecided_11 rfl rfl rfl rfl ?_
      exact WM.drop [] rfl (t_X8_undecided_12 ih _ _ _ _ _ h)
def f_X8_undecided (σ : SS) : Option (Int32 × SS) := f_X8_undecided_4 FU (0 : Int32) (0 : Int32) σ
set_option maxRecDepth 20000 in
theorem t_X8_undecided {d : Nat} {b : Nat × Nat} {σ : SS} {r : Int32} {σ' : SS} (h : f_X8_undecided σ = some (r, σ')) : MM (d + 5) b mi_X8_undecided [vR 25 0] σ (some (vI r), σ') := by
  refine MM.of (lv := [some (vR 25 0), none, none, none]) (by decide +kernel) rfl rfl (fun X Y => ?_)
  rw [f_X8_undecided] at h
  refine r_iconst (pc' := 1) d_X8_undecided_0 ci_0 rfl ?_
  refine r_istore_n (pc' := 2) d_X8_undecided_1 rfl rfl rfl rfl ?_
  refine r_iconst (pc' := 3) d_X8_undecided_2 ci_0 rfl ?_
  refine r_istore_n (pc' := 4) d_X8_undecided_3 rfl rfl rfl rfl ?_
  exact WM.drop [] rfl (t_X8_undecided_4 _ _ _ _ h)
/-! OctagonYardModel.meet(II)I -/
def mi_X8_meet : MI := (yX8_meet, cX8_meet, 4, (some .int))
theorem d_X8_meet_0 : decode mi_X8_meet.2.1 0 = .ok (.aload_n 0, 1) := by decide +kernel
theorem d_X8_meet_1 : decode mi_X8_meet.2.1 1 = .ok (.iload_n 1, 1) := by decide +kernel
theorem d_X8_meet_2 : decode mi_X8_meet.2.1 2 = .ok (.iload_n 2, 1) := by decide +kernel
theorem d_X8_meet_3 : decode mi_X8_meet.2.1 3 = .ok (.invokevirtual 251, 3) := by decide +kernel
theorem d_X8_meet_6 : decode mi_X8_meet.2.1 6 = .ok (.ifCond .ne 5, 3) := by decide +kernel
theorem d_X8_meet_9 : decode mi_X8_meet.2.1 9 = .ok (.iconst (-1), 1) := by decide +kernel
theorem d_X8_meet_10 : decode mi_X8_meet.2.1 10 = .ok (.ireturn, 1) := by decide +kernel
theorem d_X8_meet_11 : decode mi_X8_meet.2.1 11 = .ok (.aload_n 0, 1) := by decide +kernel
theorem d_X8_meet_12 : decode mi_X8_meet.2.1 12 = .ok (.iload_n 1, 1) := by decide +kernel
theorem d_X8_meet_13 : decode mi_X8_meet.2.1 13 = .ok (.iload_n 2, 1) := by decide +kernel
theorem d_X8_meet_14 : decode mi_X8_meet.2.1 14 = .ok (.invokevirtual 254, 3) := by decide +kernel
theorem d_X8_meet_17 : decode mi_X8_meet.2.1 17 = .ok (.iconst 1, 1) := by decide +kernel
theorem d_X8_meet_18 : decode mi_X8_meet.2.1 18 = .ok (.if_icmp .eq 6, 3) := by decide +kernel
theorem d_X8_meet_21 : decode mi_X8_meet.2.1 21 = .ok (.bipush (-2), 2) := by decide +kernel
theorem d_X8_meet_23 : decode mi_X8_meet.2.1 23 = .ok (.ireturn, 1) := by decide +kernel
theorem d_X8_meet_24 : decode mi_X8_meet.2.1 24 = .ok (.aload_n 0, 1) := by decide +kernel
theorem d_X8_meet_25 : decode mi_X8_meet.2.1 25 = .ok (.aload_n 0, 1) := by decide +kernel
theorem d_X8_meet_26 : decode mi_X8_meet.2.1 26 = .ok (.iload_n 1, 1) := by decide +kernel
theorem d_X8_meet_27 : decode mi_X8_meet.2.1 27 = .ok (.invokevirtual 282, 3) := by decide +kernel
theorem d_X8_meet_30 : decode mi_X8_meet.2.1 30 = .ok (.aload_n 0, 1) := by decide +kernel
theorem d_X8_meet_31 : decode mi_X8_meet.2.1 31 = .ok (.iload_n 2, 1) := by decide +kernel
theorem d_X8_meet_32 : decode mi_X8_meet.2.1 32 = .ok (.invokevirtual 282, 3) := by decide +kernel
theorem d_X8_meet_35 : decode mi_X8_meet.2.1 35 = .ok (.invokevirtual 279, 3) := by decide +kernel
theorem d_X8_meet_38 : decode mi_X8_meet.2.1 38 = .ok (.istore_n 3, 1) := by decide +kernel
theorem d_X8_meet_39 : decode mi_X8_meet.2.1 39 = .ok (.iload_n 3, 1) := by decide +kernel
theorem d_X8_meet_40 : decode mi_X8_meet.2.1 40 = .ok (.bipush (-5), 2) := by decide +kernel
theorem d_X8_meet_42 : decode mi_X8_meet.2.1 42 = .ok (.if_icmp .ne 8, 3) := by decide +kernel
theorem d_X8_meet_45 : decode mi_X8_meet.2.1 45 = .ok (.bipush (-5), 2) := by decide +kernel
theorem d_X8_meet_47 : decode mi_X8_meet.2.1 47 = .ok (.goto 9, 3) := by decide +kernel
theorem d_X8_meet_50 : decode mi_X8_meet.2.1 50 = .ok (.aload_n 0, 1) := by decide +kernel
theorem d_X8_meet_51 : decode mi_X8_meet.2.1 51 = .ok (.getfield 101, 3) := by decide +kernel
theorem d_X8_meet_54 : decode mi_X8_meet.2.1 54 = .ok (.iload_n 3, 1) := by decide +kernel
theorem d_X8_meet_55 : decode mi_X8_meet.2.1 55 = .ok (.iaload, 1) := by decide +kernel
theorem d_X8_meet_56 : decode mi_X8_meet.2.1 56 = .ok (.ireturn, 1) := by decide +kernel
theorem cw_X8_282 : CV RX8 282 mi_X8_kindOf 1 := by unfold CV; decide +kernel
def f_X8_meet (v1 : Int32) (v2 : Int32) (σ : SS) : Option (Int32 × SS) := cal (f_X8_areTwo v1 v2 σ) (fun x2 s1 => if x2 = 0 then (some ((-1 : Int32), s1)) else (cal (f_X8_nearness v1 v2 s1) (fun x4 s3 => if x4 = (1 : Int32) then (cal (f_X8_kindOf v1 s3) (fun x6 s5 => cal (f_X8_kindOf v2 s5) (fun x8 s7 => cal (f_X8_treating x6 x8 s7) (fun x10 s9 => if x10 = (-5 : Int32) then (some ((-5 : Int32), s9)) else (chk (inr x10 40) (some ((s9.1 78 0 (ix x10)), s9))))))) else (some ((-2 : Int32), s3)))))
set_option maxRecDepth 20000 in
theorem t_X8_meet {d : Nat} {b : Nat × Nat} {v1 : Int32} {v2 : Int32} {σ : SS} {r : Int32} {σ' : SS} (h : f_X8_meet v1 v2 σ = some (r, σ')) : MM (d + 6) b mi_X8_meet [vR 25 0, vI v1, vI v2] σ (some (vI r), σ') := by
  refine MM.of (lv := [some (vR 25 0), some (vI v1), some (vI v2), none]) (by decide +kernel) rfl rfl (fun X Y => ?_)
  rw [f_X8_meet] at h
  refine r_aload_n (pc' := 1) d_X8_meet_0 rfl rfl rfl ?_
  refine r_iload_n (pc' := 2) d_X8_meet_1 rfl rfl rfl ?_
  refine r_iload_n (pc' := 3) d_X8_meet_2 rfl rfl rfl ?_
  refine v2_i (mc := mi_X8_areTwo) (bc := (0, 0)) (b' := _) (pc' := 6) cw_X8_251 d_X8_meet_3 rfl rfl rfl (Nat.zero_add _).symm (Nat.zero_add _).symm rfl h (fun _ _ e => t_X8_areTwo e) (fun x2 s1 h => ?_)
  refine r_if_ne (pcT := 11) (pc' := 9) d_X8_meet_6 rfl rfl h (fun _ h => ?_) (fun _ h => ?_)
  · refine r_iconst (pc' := 10) d_X8_meet_9 ci_m1 rfl ?_
    exact r_iret d_X8_meet_10 rfl h
  · refine r_aload_n (pc' := 12) d_X8_meet_11 rfl rfl rfl ?_
    refine r_iload_n (pc' := 13) d_X8_meet_12 rfl rfl rfl ?_
    refine r_iload_n (pc' := 14) d_X8_meet_13 rfl rfl rfl ?_
    refine v2_i (mc := mi_X8_nearness) (bc := (0, 0)) (b' := _) (pc' := 17) cw_X8_254 d_X8_meet_14 rfl rfl rfl (Nat.zero_add _).symm (Nat.zero_add _).symm rfl h (fun _ _ e => t_X8_nearness e) (fun x4 s3 h => ?_)
    refine r_iconst (pc' := 18) d_X8_meet_17 ci_1 rfl ?_
    refine r_icmp_eq (pcT := 24) (pc' := 21) d_X8_meet_18 rfl rfl h (fun _ h => ?_) (fun _ h => ?_)
    · refine r_aload_n (pc' := 25) d_X8_meet_24 rfl rfl rfl ?_
      refine r_aload_n (pc' := 26) d_X8_meet_25 rfl rfl rfl ?_
      refine r_iload_n (pc' := 27) d_X8_meet_26 rfl rfl rfl ?_
      refine v1_i (mc := mi_X8_kindOf) (bc := (0, 0)) (b' := _) (pc' := 30) cw_X8_282 d_X8_meet_27 rfl rfl rfl (Nat.zero_add _).symm (Nat.zero_add _).symm rfl h (fun _ _ e => t_X8_kindOf e) (fun x6 s5 h => ?_)
      refine r_aload_n (pc' := 31) d_X8_meet_30 rfl rfl rfl ?_
      refine r_iload_n (pc' := 32) d_X8_meet_31 rfl rfl rfl ?_
      refine v1_i (mc := mi_X8_kindOf) (bc := (0, 0)) (b' := _) (pc' := 35) cw_X8_282 d_X8_meet_32 rfl rfl rfl (Nat.zero_add _).symm (Nat.zero_add _).symm rfl h (fun _ _ e => t_X8_kindOf e) (fun x8 s7 h => ?_)
      refine v2_i (mc := mi_X8_treating) (bc := (0, 0)) (b' := _) (pc' := 38) cw_X8_279 d_X8_meet_35 rfl rfl rfl (Nat.zero_add _).symm (Nat.zero_add _).symm rfl h (fun _ _ e => t_X8_treating e) (fun x10 s9 h => ?_)
      refine r_istore_n (pc' := 39) d_X8_meet_38 rfl rfl rfl rfl ?_
      refine r_iload_n (pc' := 40) d_X8_meet_39 rfl rfl rfl ?_
      refine r_bipush (pc' := 42) d_X8_meet_40 cb_m5 rfl ?_
      refine r_icmp_ne (pcT := 50) (pc' := 45) d_X8_meet_42 rfl rfl h (fun _ h => ?_) (fun _ h => ?_)
      · refine r_bipush (pc' := 47) d_X8_meet_45 cb_m5 rfl ?_
        refine r_goto (pc' := 56) d_X8_meet_47 rfl ?_
        exact r_iret d_X8_meet_56 rfl h
      · refine r_aload_n (pc' := 51) d_X8_meet_50 rfl rfl rfl ?_
        refine r_get (v := vR 78 _) (pc' := 54) fl_X8_101 d_X8_meet_51 rfl rfl (fun g => Or.inl ⟨rfl, g.2⟩) rfl ?_
        refine r_iload_n (pc' := 55) d_X8_meet_54 rfl rfl rfl ?_
        refine r_iaload (pc' := 56) d_X8_meet_55 rfl (fun _ => rfl) rfl h (fun h => ?_)
        exact r_iret d_X8_meet_56 rfl h
    · refine r_bipush (pc' := 23) d_X8_meet_21 cb_m2 rfl ?_
      exact r_iret d_X8_meet_23 rfl h
