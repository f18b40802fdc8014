def FU : Nat := 5000
/-! java/lang/Integer.bitCount(I)I -/
def mi_J6_bitCount_0f7a4 : MI := (yJ6_bitCount_0f7a4, cJ6_bitCount_0f7a4, 1, (some .int))
theorem d_J6_bitCount_0f7a4_0 : decode mi_J6_bitCount_0f7a4.2.1 0 = .ok (.iload_n 0, 1) := by decide +kernel
theorem d_J6_bitCount_0f7a4_1 : decode mi_J6_bitCount_0f7a4.2.1 1 = .ok (.iload_n 0, 1) := by decide +kernel
theorem d_J6_bitCount_0f7a4_2 : decode mi_J6_bitCount_0f7a4.2.1 2 = .ok (.iconst 1, 1) := by decide +kernel
theorem d_J6_bitCount_0f7a4_3 : decode mi_J6_bitCount_0f7a4.2.1 3 = .ok (.iushr, 1) := by decide +kernel
theorem d_J6_bitCount_0f7a4_4 : decode mi_J6_bitCount_0f7a4.2.1 4 = .ok (.ldc_w 265, 3) := by decide +kernel
theorem d_J6_bitCount_0f7a4_7 : decode mi_J6_bitCount_0f7a4.2.1 7 = .ok (.iand, 1) := by decide +kernel
theorem d_J6_bitCount_0f7a4_8 : decode mi_J6_bitCount_0f7a4.2.1 8 = .ok (.isub, 1) := by decide +kernel
theorem d_J6_bitCount_0f7a4_9 : decode mi_J6_bitCount_0f7a4.2.1 9 = .ok (.istore_n 0, 1) := by decide +kernel
theorem d_J6_bitCount_0f7a4_10 : decode mi_J6_bitCount_0f7a4.2.1 10 = .ok (.iload_n 0, 1) := by decide +kernel
theorem d_J6_bitCount_0f7a4_11 : decode mi_J6_bitCount_0f7a4.2.1 11 = .ok (.ldc_w 266, 3) := by decide +kernel
theorem d_J6_bitCount_0f7a4_14 : decode mi_J6_bitCount_0f7a4.2.1 14 = .ok (.iand, 1) := by decide +kernel
theorem d_J6_bitCount_0f7a4_15 : decode mi_J6_bitCount_0f7a4.2.1 15 = .ok (.iload_n 0, 1) := by decide +kernel
theorem d_J6_bitCount_0f7a4_16 : decode mi_J6_bitCount_0f7a4.2.1 16 = .ok (.iconst 2, 1) := by decide +kernel
theorem d_J6_bitCount_0f7a4_17 : decode mi_J6_bitCount_0f7a4.2.1 17 = .ok (.iushr, 1) := by decide +kernel
theorem d_J6_bitCount_0f7a4_18 : decode mi_J6_bitCount_0f7a4.2.1 18 = .ok (.ldc_w 266, 3) := by decide +kernel
theorem d_J6_bitCount_0f7a4_21 : decode mi_J6_bitCount_0f7a4.2.1 21 = .ok (.iand, 1) := by decide +kernel
theorem d_J6_bitCount_0f7a4_22 : decode mi_J6_bitCount_0f7a4.2.1 22 = .ok (.iadd, 1) := by decide +kernel
theorem d_J6_bitCount_0f7a4_23 : decode mi_J6_bitCount_0f7a4.2.1 23 = .ok (.istore_n 0, 1) := by decide +kernel
theorem d_J6_bitCount_0f7a4_24 : decode mi_J6_bitCount_0f7a4.2.1 24 = .ok (.iload_n 0, 1) := by decide +kernel
theorem d_J6_bitCount_0f7a4_25 : decode mi_J6_bitCount_0f7a4.2.1 25 = .ok (.iload_n 0, 1) := by decide +kernel
theorem d_J6_bitCount_0f7a4_26 : decode mi_J6_bitCount_0f7a4.2.1 26 = .ok (.iconst 4, 1) := by decide +kernel
theorem d_J6_bitCount_0f7a4_27 : decode mi_J6_bitCount_0f7a4.2.1 27 = .ok (.iushr, 1) := by decide +kernel
theorem d_J6_bitCount_0f7a4_28 : decode mi_J6_bitCount_0f7a4.2.1 28 = .ok (.iadd, 1) := by decide +kernel
theorem d_J6_bitCount_0f7a4_29 : decode mi_J6_bitCount_0f7a4.2.1 29 = .ok (.ldc_w 267, 3) := by decide +kernel
theorem d_J6_bitCount_0f7a4_32 : decode mi_J6_bitCount_0f7a4.2.1 32 = .ok (.iand, 1) := by decide +kernel
theorem d_J6_bitCount_0f7a4_33 : decode mi_J6_bitCount_0f7a4.2.1 33 = .ok (.istore_n 0, 1) := by decide +kernel
theorem d_J6_bitCount_0f7a4_34 : decode mi_J6_bitCount_0f7a4.2.1 34 = .ok (.iload_n 0, 1) := by decide +kernel
theorem d_J6_bitCount_0f7a4_35 : decode mi_J6_bitCount_0f7a4.2.1 35 = .ok (.iload_n 0, 1) := by decide +kernel
theorem d_J6_bitCount_0f7a4_36 : decode mi_J6_bitCount_0f7a4.2.1 36 = .ok (.bipush 8, 2) := by decide +kernel
theorem d_J6_bitCount_0f7a4_38 : decode mi_J6_bitCount_0f7a4.2.1 38 = .ok (.iushr, 1) := by decide +kernel
theorem d_J6_bitCount_0f7a4_39 : decode mi_J6_bitCount_0f7a4.2.1 39 = .ok (.iadd, 1) := by decide +kernel
theorem d_J6_bitCount_0f7a4_40 : decode mi_J6_bitCount_0f7a4.2.1 40 = .ok (.istore_n 0, 1) := by decide +kernel
theorem d_J6_bitCount_0f7a4_41 : decode mi_J6_bitCount_0f7a4.2.1 41 = .ok (.iload_n 0, 1) := by decide +kernel
theorem d_J6_bitCount_0f7a4_42 : decode mi_J6_bitCount_0f7a4.2.1 42 = .ok (.iload_n 0, 1) := by decide +kernel
theorem d_J6_bitCount_0f7a4_43 : decode mi_J6_bitCount_0f7a4.2.1 43 = .ok (.bipush 16, 2) := by decide +kernel
theorem d_J6_bitCount_0f7a4_45 : decode mi_J6_bitCount_0f7a4.2.1 45 = .ok (.iushr, 1) := by decide +kernel
theorem d_J6_bitCount_0f7a4_46 : decode mi_J6_bitCount_0f7a4.2.1 46 = .ok (.iadd, 1) := by decide +kernel
theorem d_J6_bitCount_0f7a4_47 : decode mi_J6_bitCount_0f7a4.2.1 47 = .ok (.istore_n 0, 1) := by decide +kernel
theorem d_J6_bitCount_0f7a4_48 : decode mi_J6_bitCount_0f7a4.2.1 48 = .ok (.iload_n 0, 1) := by decide +kernel
theorem d_J6_bitCount_0f7a4_49 : decode mi_J6_bitCount_0f7a4.2.1 49 = .ok (.bipush 63, 2) := by decide +kernel
theorem d_J6_bitCount_0f7a4_51 : decode mi_J6_bitCount_0f7a4.2.1 51 = .ok (.iand, 1) := by decide +kernel
theorem d_J6_bitCount_0f7a4_52 : decode mi_J6_bitCount_0f7a4.2.1 52 = .ok (.ireturn, 1) := by decide +kernel
theorem ci_1 : Int32.ofInt (1) = 1 := by decide
theorem ci_2 : Int32.ofInt (2) = 2 := by decide
theorem ci_4 : Int32.ofInt (4) = 4 := by decide
theorem cb_8 : (Int8.ofInt (8)).toInt32 = 8 := by decide
theorem cb_16 : (Int8.ofInt (16)).toInt32 = 16 := by decide
theorem cb_63 : (Int8.ofInt (63)).toInt32 = 63 := by decide
theorem k_J6_265 : Cond.constant RJ6 265 (1431655765) ∈ mtbl := by decide +kernel
theorem k_J6_266 : Cond.constant RJ6 266 (858993459) ∈ mtbl := by decide +kernel
theorem k_J6_267 : Cond.constant RJ6 267 (252645135) ∈ mtbl := by decide +kernel
def f_J6_bitCount_0f7a4 (v0 : Int32) (σ : SS) : Option (Int32 × SS) := lt_ (v0 - ((((v0).toUInt32 >>> (((1 : Int32)).toUInt32 &&& Int32.toUInt32 31)).toInt32) &&& (1431655765 : Int32))) (fun x1 => lt_ ((x1 &&& (858993459 : Int32)) + ((((x1).toUInt32 >>> (((2 : Int32)).toUInt32 &&& Int32.toUInt32 31)).toInt32) &&& (858993459 : Int32))) (fun x2 => lt_ ((x2 + (((x2).toUInt32 >>> (((4 : Int32)).toUInt32 &&& Int32.toUInt32 31)).toInt32)) &&& (252645135 : Int32)) (fun x3 => lt_ (x3 + (((x3).toUInt32 >>> (((8 : Int32)).toUInt32 &&& Int32.toUInt32 31)).toInt32)) (fun x4 => lt_ (x4 + (((x4).toUInt32 >>> (((16 : Int32)).toUInt32 &&& Int32.toUInt32 31)).toInt32)) (fun x5 => some ((x5 &&& (63 : Int32)), σ))))))
set_option maxRecDepth 20000 in
theorem t_J6_bitCount_0f7a4 {d : Nat} {b : Nat × Nat} {v0 : Int32} {σ : SS} {r : Int32} {σ' : SS} (h : f_J6_bitCount_0f7a4 v0 σ = some (r, σ')) : MM d b mi_J6_bitCount_0f7a4 [vI v0] σ (some (vI r), σ') := by
  refine MM.of (lv := [some (vI v0)]) (by decide +kernel) rfl rfl (fun X Y => ?_)
  rw [f_J6_bitCount_0f7a4] at h
  refine r_iload_n (pc' := 1) d_J6_bitCount_0f7a4_0 rfl rfl rfl ?_
  refine r_iload_n (pc' := 2) d_J6_bitCount_0f7a4_1 rfl rfl rfl ?_
  refine r_iconst (pc' := 3) d_J6_bitCount_0f7a4_2 ci_1 rfl ?_
  refine r_iushr (pc' := 4) d_J6_bitCount_0f7a4_3 rfl ?_
  refine r_ldcw (pc' := 7) k_J6_265 d_J6_bitCount_0f7a4_4 rfl ?_
  refine r_iand (pc' := 8) d_J6_bitCount_0f7a4_7 rfl ?_
  refine r_isub (pc' := 9) d_J6_bitCount_0f7a4_8 rfl ?_
  refine l_istore_n (pc' := 10) d_J6_bitCount_0f7a4_9 rfl rfl rfl rfl h (fun x1 h => ?_)
  refine r_iload_n (pc' := 11) d_J6_bitCount_0f7a4_10 rfl rfl rfl ?_
  refine r_ldcw (pc' := 14) k_J6_266 d_J6_bitCount_0f7a4_11 rfl ?_
  refine r_iand (pc' := 15) d_J6_bitCount_0f7a4_14 rfl ?_
  refine r_iload_n (pc' := 16) d_J6_bitCount_0f7a4_15 rfl rfl rfl ?_
  refine r_iconst (pc' := 17) d_J6_bitCount_0f7a4_16 ci_2 rfl ?_
  refine r_iushr (pc' := 18) d_J6_bitCount_0f7a4_17 rfl ?_
  refine r_ldcw (pc' := 21) k_J6_266 d_J6_bitCount_0f7a4_18 rfl ?_
  refine r_iand (pc' := 22) d_J6_bitCount_0f7a4_21 rfl ?_
  refine r_iadd (pc' := 23) d_J6_bitCount_0f7a4_22 rfl ?_
  refine l_istore_n (pc' := 24) d_J6_bitCount_0f7a4_23 rfl rfl rfl rfl h (fun x2 h => ?_)
  refine r_iload_n (pc' := 25) d_J6_bitCount_0f7a4_24 rfl rfl rfl ?_
  refine r_iload_n (pc' := 26) d_J6_bitCount_0f7a4_25 rfl rfl rfl ?_
  refine r_iconst (pc' := 27) d_J6_bitCount_0f7a4_26 ci_4 rfl ?_
  refine r_iushr (pc' := 28) d_J6_bitCount_0f7a4_27 rfl ?_
  refine r_iadd (pc' := 29) d_J6_bitCount_0f7a4_28 rfl ?_
  refine r_ldcw (pc' := 32) k_J6_267 d_J6_bitCount_0f7a4_29 rfl ?_
  refine r_iand (pc' := 33) d_J6_bitCount_0f7a4_32 rfl ?_
  refine l_istore_n (pc' := 34) d_J6_bitCount_0f7a4_33 rfl rfl rfl rfl h (fun x3 h => ?_)
  refine r_iload_n (pc' := 35) d_J6_bitCount_0f7a4_34 rfl rfl rfl ?_
  refine r_iload_n (pc' := 36) d_J6_bitCount_0f7a4_35 rfl rfl rfl ?_
  refine r_bipush (pc' := 38) d_J6_bitCount_0f7a4_36 cb_8 rfl ?_
  refine r_iushr (pc' := 39) d_J6_bitCount_0f7a4_38 rfl ?_
  refine r_iadd (pc' := 40) d_J6_bitCount_0f7a4_39 rfl ?_
  refine l_istore_n (pc' := 41) d_J6_bitCount_0f7a4_40 rfl rfl rfl rfl h (fun x4 h => ?_)
  refine r_iload_n (pc' := 42) d_J6_bitCount_0f7a4_41 rfl rfl rfl ?_
  refine r_iload_n (pc' := 43) d_J6_bitCount_0f7a4_42 rfl rfl rfl ?_
  refine r_bipush (pc' := 45) d_J6_bitCount_0f7a4_43 cb_16 rfl ?_
  refine r_iushr (pc' := 46) d_J6_bitCount_0f7a4_45 rfl ?_
  refine r_iadd (pc' := 47) d_J6_bitCount_0f7a4_46 rfl ?_
  refine l_istore_n (pc' := 48) d_J6_bitCount_0f7a4_47 rfl rfl rfl rfl h (fun x5 h => ?_)
  refine r_iload_n (pc' := 49) d_J6_bitCount_0f7a4_48 rfl rfl rfl ?_
  refine r_bipush (pc' := 51) d_J6_bitCount_0f7a4_49 cb_63 rfl ?_
  refine r_iand (pc' := 52) d_J6_bitCount_0f7a4_51 rfl ?_
  exact r_iret d_J6_bitCount_0f7a4_52 rfl h
/-! java/util/Arrays.fill([II)V -/
def mi_J7_fill_53178 : MI := (yJ7_fill_53178, cJ7_fill_53178, 4, none)
theorem d_J7_fill_53178_0 : decode mi_J7_fill_53178.2.1 0 = .ok (.iconst 0, 1) := by decide +kernel
theorem d_J7_fill_53178_1 : decode mi_J7_fill_53178.2.1 1 = .ok (.istore_n 2, 1) := by decide +kernel
theorem d_J7_fill_53178_2 : decode mi_J7_fill_53178.2.1 2 = .ok (.aload_n 0, 1) := by decide +kernel
theorem d_J7_fill_53178_3 : decode mi_J7_fill_53178.2.1 3 = .ok (.arraylength, 1) := by decide +kernel
theorem d_J7_fill_53178_4 : decode mi_J7_fill_53178.2.1 4 = .ok (.istore_n 3, 1) := by decide +kernel
theorem d_J7_fill_53178_5 : decode mi_J7_fill_53178.2.1 5 = .ok (.iload_n 2, 1) := by decide +kernel
theorem d_J7_fill_53178_6 : decode mi_J7_fill_53178.2.1 6 = .ok (.iload_n 3, 1) := by decide +kernel
theorem d_J7_fill_53178_7 : decode mi_J7_fill_53178.2.1 7 = .ok (.if_icmp .ge 13, 3) := by decide +kernel
theorem d_J7_fill_53178_10 : decode mi_J7_fill_53178.2.1 10 = .ok (.aload_n 0, 1) := by decide +kernel
theorem d_J7_fill_53178_11 : decode mi_J7_fill_53178.2.1 11 = .ok (.iload_n 2, 1) := by decide +kernel
theorem d_J7_fill_53178_12 : decode mi_J7_fill_53178.2.1 12 = .ok (.iload_n 1, 1) := by decide +kernel
theorem d_J7_fill_53178_13 : decode mi_J7_fill_53178.2.1 13 = .ok (.iastore, 1) := by decide +kernel
theorem d_J7_fill_53178_14 : decode mi_J7_fill_53178.2.1 14 = .ok (.iinc 2 1, 3) := by decide +kernel
theorem d_J7_fill_53178_17 : decode mi_J7_fill_53178.2.1 17 = .ok (.goto (-12), 3) := by decide +kernel
theorem d_J7_fill_53178_20 : decode mi_J7_fill_53178.2.1 20 = .ok (.return_, 1) := by decide +kernel
theorem ci_0 : Int32.ofInt (0) = 0 := by decide
def f_J7_fill_53178_5 : Nat → Nat → Int32 → Int32 → Int32 → SS → Option (Unit × SS)
  | 0, _, _, _, _, _ => none
  | n + 1, v0, v1, v2, v3, σ => if v3 ≤ v2 then (some ((), σ)) else (chk (inr v2 8) (lt_ (up σ 18 v0 (ix v2) v1) (fun s1 => lt_ (v2 + (1 : Int32)) (fun x2 => f_J7_fill_53178_5 n v0 v1 x2 v3 s1))))
set_option maxRecDepth 20000 in
theorem t_J7_fill_53178_5 {d : Nat} {X : MX} {Y : MY} {b : Nat × Nat} {r : Unit} {σ' : SS} : ∀ (n : Nat) (v0 : Nat) (v1 : Int32) (v2 : Int32) (v3 : Int32) (σ : SS), f_J7_fill_53178_5 n v0 v1 v2 v3 σ = some (r, σ') → WM d X Y b mi_J7_fill_53178 5 [some (vR 18 v0), some (vI v1), some (vI v2), some (vI v3)] [] σ (none, σ') := by
  intro n
  induction n with
  | zero => intro _ _ _ _ σ h; cases h
  | succ n ih =>
    intro v0 v1 v2 v3 σ h
    rw [f_J7_fill_53178_5] at h
    refine r_iload_n (pc' := 6) d_J7_fill_53178_5 rfl rfl rfl ?_
    refine r_iload_n (pc' := 7) d_J7_fill_53178_6 rfl rfl rfl ?_
    refine r_icmp_ge (pcT := 20) (pc' := 10) d_J7_fill_53178_7 rfl rfl h (fun _ h => ?_) (fun _ h => ?_)
    · exact r_vret d_J7_fill_53178_20 rfl h
    · refine r_aload_n (pc' := 11) d_J7_fill_53178_10 rfl rfl rfl ?_
      refine r_iload_n (pc' := 12) d_J7_fill_53178_11 rfl rfl rfl ?_
      refine r_iload_n (pc' := 13) d_J7_fill_53178_12 rfl rfl rfl ?_
      refine l_iastore (pc' := 14) d_J7_fill_53178_13 rfl (fun _ => rfl) (by decide) (by decide) (fun _ => rfl) rfl h (fun s1 h => ?_)
      refine l_iinc (pc' := 17) d_J7_fill_53178_14 rfl ci_1 rfl rfl rfl h (fun x2 h => ?_)
      refine r_goto (pc' := 5) d_J7_fill_53178_17 rfl ?_
      exact WM.drop [] rfl (ih _ _ _ _ _ h)
def f_J7_fill_53178 (v0 : Nat) (v1 : Int32) (σ : SS) : Option (Unit × SS) := f_J7_fill_53178_5 FU v0 v1 (0 : Int32) (8 : Int32) σ
set_option maxRecDepth 20000 in
theorem t_J7_fill_53178 {d : Nat} {b : Nat × Nat} {v0 : Nat} {v1 : Int32} {σ : SS} {r : Unit} {σ' : SS} (h : f_J7_fill_53178 v0 v1 σ = some (r, σ')) : MM d b mi_J7_fill_53178 [vR 18 v0, vI v1] σ (none, σ') := by
  refine MM.of (lv := [some (vR 18 v0), some (vI v1), none, none]) (by decide +kernel) rfl rfl (fun X Y => ?_)
  rw [f_J7_fill_53178] at h
  refine r_iconst (pc' := 1) d_J7_fill_53178_0 ci_0 rfl ?_
  refine r_istore_n (pc' := 2) d_J7_fill_53178_1 rfl rfl rfl rfl ?_
  refine r_aload_n (pc' := 3) d_J7_fill_53178_2 rfl rfl rfl ?_
  refine r_alen (pc' := 4) (x := 8) d_J7_fill_53178_3 rfl (by decide) (by decide) rfl ?_
  refine r_istore_n (pc' := 5) d_J7_fill_53178_4 rfl rfl rfl rfl ?_
  exact WM.drop [] rfl (t_J7_fill_53178_5 _ _ _ _ _ _ h)
/-! java/lang/Math.floorDiv(II)I -/
def mi_J9_floorDiv_7cf53 : MI := (yJ9_floorDiv_7cf53, cJ9_floorDiv_7cf53, 3, (some .int))
theorem d_J9_floorDiv_7cf53_0 : decode mi_J9_floorDiv_7cf53.2.1 0 = .ok (.iload_n 0, 1) := by decide +kernel
theorem d_J9_floorDiv_7cf53_1 : decode mi_J9_floorDiv_7cf53.2.1 1 = .ok (.iload_n 1, 1) := by decide +kernel
theorem d_J9_floorDiv_7cf53_2 : decode mi_J9_floorDiv_7cf53.2.1 2 = .ok (.idiv, 1) := by decide +kernel
theorem d_J9_floorDiv_7cf53_3 : decode mi_J9_floorDiv_7cf53.2.1 3 = .ok (.istore_n 2, 1) := by decide +kernel
theorem d_J9_floorDiv_7cf53_4 : decode mi_J9_floorDiv_7cf53.2.1 4 = .ok (.iload_n 0, 1) := by decide +kernel
theorem d_J9_floorDiv_7cf53_5 : decode mi_J9_floorDiv_7cf53.2.1 5 = .ok (.iload_n 1, 1) := by decide +kernel
theorem d_J9_floorDiv_7cf53_6 : decode mi_J9_floorDiv_7cf53.2.1 6 = .ok (.ixor, 1) := by decide +kernel
theorem d_J9_floorDiv_7cf53_7 : decode mi_J9_floorDiv_7cf53.2.1 7 = .ok (.ifCond .ge 14, 3) := by decide +kernel
theorem d_J9_floorDiv_7cf53_10 : decode mi_J9_floorDiv_7cf53.2.1 10 = .ok (.iload_n 2, 1) := by decide +kernel
theorem d_J9_floorDiv_7cf53_11 : decode mi_J9_floorDiv_7cf53.2.1 11 = .ok (.iload_n 1, 1) := by decide +kernel
theorem d_J9_floorDiv_7cf53_12 : decode mi_J9_floorDiv_7cf53.2.1 12 = .ok (.imul, 1) := by decide +kernel
theorem d_J9_floorDiv_7cf53_13 : decode mi_J9_floorDiv_7cf53.2.1 13 = .ok (.iload_n 0, 1) := by decide +kernel
theorem d_J9_floorDiv_7cf53_14 : decode mi_J9_floorDiv_7cf53.2.1 14 = .ok (.if_icmp .eq 7, 3) := by decide +kernel
theorem d_J9_floorDiv_7cf53_17 : decode mi_J9_floorDiv_7cf53.2.1 17 = .ok (.iload_n 2, 1) := by decide +kernel
theorem d_J9_floorDiv_7cf53_18 : decode mi_J9_floorDiv_7cf53.2.1 18 = .ok (.iconst 1, 1) := by decide +kernel
theorem d_J9_floorDiv_7cf53_19 : decode mi_J9_floorDiv_7cf53.2.1 19 = .ok (.isub, 1) := by decide +kernel
theorem d_J9_floorDiv_7cf53_20 : decode mi_J9_floorDiv_7cf53.2.1 20 = .ok (.ireturn, 1) := by decide +kernel
theorem d_J9_floorDiv_7cf53_21 : decode mi_J9_floorDiv_7cf53.2.1 21 = .ok (.iload_n 2, 1) := by decide +kernel
theorem d_J9_floorDiv_7cf53_22 : decode mi_J9_floorDiv_7cf53.2.1 22 = .ok (.ireturn, 1) := by decide +kernel
def f_J9_floorDiv_7cf53 (v0 : Int32) (v1 : Int32) (σ : SS) : Option (Int32 × SS) := chk (¬ v1 = 0) (lt_ (v0 / v1) (fun x2 => if 0 ≤ (v0 ^^^ v1) then (some (x2, σ)) else (if (x2 * v1) = v0 then (some (x2, σ)) else (some ((x2 - (1 : Int32)), σ)))))
set_option maxRecDepth 20000 in
theorem t_J9_floorDiv_7cf53 {d : Nat} {b : Nat × Nat} {v0 : Int32} {v1 : Int32} {σ : SS} {r : Int32} {σ' : SS} (h : f_J9_floorDiv_7cf53 v0 v1 σ = some (r, σ')) : MM d b mi_J9_floorDiv_7cf53 [vI v0, vI v1] σ (some (vI r), σ') := by
  refine MM.of (lv := [some (vI v0), some (vI v1), none]) (by decide +kernel) rfl rfl (fun X Y => ?_)
  rw [f_J9_floorDiv_7cf53] at h
  refine r_iload_n (pc' := 1) d_J9_floorDiv_7cf53_0 rfl rfl rfl ?_
  refine r_iload_n (pc' := 2) d_J9_floorDiv_7cf53_1 rfl rfl rfl ?_
  obtain ⟨z1, h⟩ := chk_t h
  refine r_idiv (pc' := 3) d_J9_floorDiv_7cf53_2 z1 rfl ?_
  refine l_istore_n (pc' := 4) d_J9_floorDiv_7cf53_3 rfl rfl rfl rfl h (fun x2 h => ?_)
  refine r_iload_n (pc' := 5) d_J9_floorDiv_7cf53_4 rfl rfl rfl ?_
  refine r_iload_n (pc' := 6) d_J9_floorDiv_7cf53_5 rfl rfl rfl ?_
  refine r_ixor (pc' := 7) d_J9_floorDiv_7cf53_6 rfl ?_
  refine r_if_ge (pcT := 21) (pc' := 10) d_J9_floorDiv_7cf53_7 rfl rfl h (fun _ h => ?_) (fun _ h => ?_)
  · refine r_iload_n (pc' := 22) d_J9_floorDiv_7cf53_21 rfl rfl rfl ?_
    exact r_iret d_J9_floorDiv_7cf53_22 rfl h
  · refine r_iload_n (pc' := 11) d_J9_floorDiv_7cf53_10 rfl rfl rfl ?_
    refine r_iload_n (pc' := 12) d_J9_floorDiv_7cf53_11 rfl rfl rfl ?_
    refine r_imul (pc' := 13) d_J9_floorDiv_7cf53_12 rfl ?_
    refine r_iload_n (pc' := 14) d_J9_floorDiv_7cf53_13 rfl rfl rfl ?_
    refine r_icmp_eq (pcT := 21) (pc' := 17) d_J9_floorDiv_7cf53_14 rfl rfl h (fun _ h => ?_) (fun _ h => ?_)
    · refine r_iload_n (pc' := 22) d_J9_floorDiv_7cf53_21 rfl rfl rfl ?_
      exact r_iret d_J9_floorDiv_7cf53_22 rfl h
    · refine r_iload_n (pc' := 18) d_J9_floorDiv_7cf53_17 rfl rfl rfl ?_
      refine r_iconst (pc' := 19) d_J9_floorDiv_7cf53_18 ci_1 rfl ?_
      refine r_isub (pc' := 20) d_J9_floorDiv_7cf53_19 rfl ?_
      exact r_iret d_J9_floorDiv_7cf53_20 rfl h
/-! OctagonYard.isFrom(III)Z -/
def mi_X7_isFrom : MI := (yX7_isFrom, cX7_isFrom, 3, (some .boolean))
theorem d_X7_isFrom_0 : decode mi_X7_isFrom.2.1 0 = .ok (.iload_n 1, 1) := by decide +kernel
theorem d_X7_isFrom_1 : decode mi_X7_isFrom.2.1 1 = .ok (.iload_n 0, 1) := by decide +kernel
theorem d_X7_isFrom_2 : decode mi_X7_isFrom.2.1 2 = .ok (.if_icmp .gt 12, 3) := by decide +kernel
theorem d_X7_isFrom_5 : decode mi_X7_isFrom.2.1 5 = .ok (.iload_n 0, 1) := by decide +kernel
theorem d_X7_isFrom_6 : decode mi_X7_isFrom.2.1 6 = .ok (.iload_n 2, 1) := by decide +kernel
theorem d_X7_isFrom_7 : decode mi_X7_isFrom.2.1 7 = .ok (.if_icmp .gt 7, 3) := by decide +kernel
theorem d_X7_isFrom_10 : decode mi_X7_isFrom.2.1 10 = .ok (.iconst 1, 1) := by decide +kernel
theorem d_X7_isFrom_11 : decode mi_X7_isFrom.2.1 11 = .ok (.goto 4, 3) := by decide +kernel
theorem d_X7_isFrom_14 : decode mi_X7_isFrom.2.1 14 = .ok (.iconst 0, 1) := by decide +kernel
theorem d_X7_isFrom_15 : decode mi_X7_isFrom.2.1 15 = .ok (.ireturn, 1) := by decide +kernel
def f_X7_isFrom (v0 : Int32) (v1 : Int32) (v2 : Int32) (σ : SS) : Option (Int32 × SS) := if v0 < v1 then (some ((0 : Int32), σ)) else (if v2 < v0 then (some ((0 : Int32), σ)) else (some ((1 : Int32), σ)))
set_option maxRecDepth 20000 in
theorem t_X7_isFrom {d : Nat} {b : Nat × Nat} {v0 : Int32} {v1 : Int32} {v2 : Int32} {σ : SS} {r : Int32} {σ' : SS} (h : f_X7_isFrom v0 v1 v2 σ = some (r, σ')) : MM d b mi_X7_isFrom [vI v0, vI v1, vI v2] σ (some (vI r), σ') := by
  refine MM.of (lv := [some (vI v0), some (vI v1), some (vI v2)]) (by decide +kernel) rfl rfl (fun X Y => ?_)
  rw [f_X7_isFrom] at h
  refine r_iload_n (pc' := 1) d_X7_isFrom_0 rfl rfl rfl ?_
  refine r_iload_n (pc' := 2) d_X7_isFrom_1 rfl rfl rfl ?_
  refine r_icmp_gt (pcT := 14) (pc' := 5) d_X7_isFrom_2 rfl rfl h (fun _ h => ?_) (fun _ h => ?_)
  · refine r_iconst (pc' := 15) d_X7_isFrom_14 ci_0 rfl ?_
    exact r_zret d_X7_isFrom_15 rfl (Or.inl rfl) h
  · refine r_iload_n (pc' := 6) d_X7_isFrom_5 rfl rfl rfl ?_
    refine r_iload_n (pc' := 7) d_X7_isFrom_6 rfl rfl rfl ?_
    refine r_icmp_gt (pcT := 14) (pc' := 10) d_X7_isFrom_7 rfl rfl h (fun _ h => ?_) (fun _ h => ?_)
    · refine r_iconst (pc' := 15) d_X7_isFrom_14 ci_0 rfl ?_
      exact r_zret d_X7_isFrom_15 rfl (Or.inl rfl) h
    · refine r_iconst (pc' := 11) d_X7_isFrom_10 ci_1 rfl ?_
      refine r_goto (pc' := 15) d_X7_isFrom_11 rfl ?_
      exact r_zret d_X7_isFrom_15 rfl (Or.inr rfl) h
/-! OctagonYard.familyOf(I)I -/
def mi_X7_familyOf : MI := (yX7_familyOf, cX7_familyOf, 1, (some .int))
theorem d_X7_familyOf_0 : decode mi_X7_familyOf.2.1 0 = .ok (.bipush 6, 2) := by decide +kernel
theorem d_X7_familyOf_2 : decode mi_X7_familyOf.2.1 2 = .ok (.iload_n 0, 1) := by decide +kernel
theorem d_X7_familyOf_3 : decode mi_X7_familyOf.2.1 3 = .ok (.iconst 2, 1) := by decide +kernel
theorem d_X7_familyOf_4 : decode mi_X7_familyOf.2.1 4 = .ok (.idiv, 1) := by decide +kernel
theorem d_X7_familyOf_5 : decode mi_X7_familyOf.2.1 5 = .ok (.iadd, 1) := by decide +kernel
theorem d_X7_familyOf_6 : decode mi_X7_familyOf.2.1 6 = .ok (.ireturn, 1) := by decide +kernel
theorem cb_6 : (Int8.ofInt (6)).toInt32 = 6 := by decide
def f_X7_familyOf (v0 : Int32) (σ : SS) : Option (Int32 × SS) := some (((6 : Int32) + (v0 / (2 : Int32))), σ)
set_option maxRecDepth 20000 in
theorem t_X7_familyOf {d : Nat} {b : Nat × Nat} {v0 : Int32} {σ : SS} {r : Int32} {σ' : SS} (h : f_X7_familyOf v0 σ = some (r, σ')) : MM d b mi_X7_familyOf [vI v0] σ (some (vI r), σ') := by
  refine MM.of (lv := [some (vI v0)]) (by decide +kernel) rfl rfl (fun X Y => ?_)
  rw [f_X7_familyOf] at h
  refine r_bipush (pc' := 2) d_X7_familyOf_0 cb_6 rfl ?_
  refine r_iload_n (pc' := 3) d_X7_familyOf_2 rfl rfl rfl ?_
  refine r_iconst (pc' := 4) d_X7_familyOf_3 ci_2 rfl ?_
  refine r_idiv (pc' := 5) d_X7_familyOf_4 (by decide) rfl ?_
  refine r_iadd (pc' := 6) d_X7_familyOf_5 rfl ?_
  exact r_iret d_X7_familyOf_6 rfl h
/-! OctagonYard.opposite(I)I -/
def mi_X7_opposite : MI := (yX7_opposite, cX7_opposite, 1, (some .int))
theorem d_X7_opposite_0 : decode mi_X7_opposite.2.1 0 = .ok (.iload_n 0, 1) := by decide +kernel
theorem d_X7_opposite_1 : decode mi_X7_opposite.2.1 1 = .ok (.iconst 4, 1) := by decide +kernel
theorem d_X7_opposite_2 : decode mi_X7_opposite.2.1 2 = .ok (.iadd, 1) := by decide +kernel
theorem d_X7_opposite_3 : decode mi_X7_opposite.2.1 3 = .ok (.bipush 8, 2) := by decide +kernel
theorem d_X7_opposite_5 : decode mi_X7_opposite.2.1 5 = .ok (.irem, 1) := by decide +kernel
theorem d_X7_opposite_6 : decode mi_X7_opposite.2.1 6 = .ok (.ireturn, 1) := by decide +kernel
def f_X7_opposite (v0 : Int32) (σ : SS) : Option (Int32 × SS) := some (((v0 + (4 : Int32)) - (v0 + (4 : Int32)) / (8 : Int32) * (8 : Int32)), σ)
set_option maxRecDepth 20000 in
theorem t_X7_opposite {d : Nat} {b : Nat × Nat} {v0 : Int32} {σ : SS} {r : Int32} {σ' : SS} (h : f_X7_opposite v0 σ = some (r, σ')) : MM d b mi_X7_opposite [vI v0] σ (some (vI r), σ') := by
  refine MM.of (lv := [some (vI v0)]) (by decide +kernel) rfl rfl (fun X Y => ?_)
  rw [f_X7_opposite] at h
  refine r_iload_n (pc' := 1) d_X7_opposite_0 rfl rfl rfl ?_
  refine r_iconst (pc' := 2) d_X7_opposite_1 ci_4 rfl ?_
  refine r_iadd (pc' := 3) d_X7_opposite_2 rfl ?_
  refine r_bipush (pc' := 5) d_X7_opposite_3 cb_8 rfl ?_
  refine r_irem (pc' := 6) d_X7_opposite_5 (by decide) rfl ?_
  exact r_iret d_X7_opposite_6 rfl h
/-! OctagonYard.measure(III)I -/
def mi_X7_measure : MI := (yX7_measure, cX7_measure, 3, (some .int))
theorem d_X7_measure_0 : decode mi_X7_measure.2.1 0 = .ok (.getstatic 249, 3) := by decide +kernel
theorem d_X7_measure_3 : decode mi_X7_measure.2.1 3 = .ok (.iload_n 0, 1) := by decide +kernel
theorem d_X7_measure_4 : decode mi_X7_measure.2.1 4 = .ok (.iaload, 1) := by decide +kernel
theorem d_X7_measure_5 : decode mi_X7_measure.2.1 5 = .ok (.iload_n 1, 1) := by decide +kernel
theorem d_X7_measure_6 : decode mi_X7_measure.2.1 6 = .ok (.imul, 1) := by decide +kernel
theorem d_X7_measure_7 : decode mi_X7_measure.2.1 7 = .ok (.getstatic 252, 3) := by decide +kernel
theorem d_X7_measure_10 : decode mi_X7_measure.2.1 10 = .ok (.iload_n 0, 1) := by decide +kernel
theorem d_X7_measure_11 : decode mi_X7_measure.2.1 11 = .ok (.iaload, 1) := by decide +kernel
theorem d_X7_measure_12 : decode mi_X7_measure.2.1 12 = .ok (.iload_n 2, 1) := by decide +kernel
theorem d_X7_measure_13 : decode mi_X7_measure.2.1 13 = .ok (.imul, 1) := by decide +kernel
theorem d_X7_measure_14 : decode mi_X7_measure.2.1 14 = .ok (.iadd, 1) := by decide +kernel
theorem d_X7_measure_15 : decode mi_X7_measure.2.1 15 = .ok (.ireturn, 1) := by decide +kernel
theorem st_X7_249 : Cond.fieldLink RX7 249 "OctagonYard" (snm 0) "[I" ∈ mtbl := by decide +kernel
theorem st_X7_252 : Cond.fieldLink RX7 252 "OctagonYard" (snm 1) "[I" ∈ mtbl := by decide +kernel
def f_X7_measure (v0 : Int32) (v1 : Int32) (v2 : Int32) (σ : SS) : Option (Int32 × SS) := chk (inr v0 8) (chk (inr v0 8) (some ((((sfn 0 (ix v0)) * v1) + ((sfn 1 (ix v0)) * v2)), σ)))
set_option maxRecDepth 20000 in
theorem t_X7_measure {d : Nat} {b : Nat × Nat} {v0 : Int32} {v1 : Int32} {v2 : Int32} {σ : SS} {r : Int32} {σ' : SS} (h : f_X7_measure v0 v1 v2 σ = some (r, σ')) : MM d b mi_X7_measure [vI v0, vI v1, vI v2] σ (some (vI r), σ') := by
  refine MM.of (lv := [some (vI v0), some (vI v1), some (vI v2)]) (by decide +kernel) rfl rfl (fun X Y => ?_)
  rw [f_X7_measure] at h
  refine r_getstatic (k := 0) (pc' := 3) st_X7_249 d_X7_measure_0 (by decide) rfl ?_
  refine r_iload_n (pc' := 4) d_X7_measure_3 rfl rfl rfl ?_
  refine r_saload (k := 0) (pc' := 5) d_X7_measure_4 (by decide) rfl h (fun h => ?_)
  refine r_iload_n (pc' := 6) d_X7_measure_5 rfl rfl rfl ?_
  refine r_imul (pc' := 7) d_X7_measure_6 rfl ?_
  refine r_getstatic (k := 1) (pc' := 10) st_X7_252 d_X7_measure_7 (by decide) rfl ?_
  refine r_iload_n (pc' := 11) d_X7_measure_10 rfl rfl rfl ?_
  refine r_saload (k := 1) (pc' := 12) d_X7_measure_11 (by decide) rfl h (fun h => ?_)
  refine r_iload_n (pc' := 13) d_X7_measure_12 rfl rfl rfl ?_
  refine r_imul (pc' := 14) d_X7_measure_13 rfl ?_
  refine r_iadd (pc' := 15) d_X7_measure_14 rfl ?_
  exact r_iret d_X7_measure_15 rfl h
