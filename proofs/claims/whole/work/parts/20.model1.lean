/-! OctagonYardModel.in(JJJ)Z -/
def mi_X8_in : MI := (yX8_in, cX8_in, 6, (some .boolean))
theorem d_X8_in_0 : decode mi_X8_in.2.1 0 = .ok (.lload_n 0, 1) := by decide +kernel
theorem d_X8_in_1 : decode mi_X8_in.2.1 1 = .ok (.lload_n 2, 1) := by decide +kernel
theorem d_X8_in_2 : decode mi_X8_in.2.1 2 = .ok (.lcmp, 1) := by decide +kernel
theorem d_X8_in_3 : decode mi_X8_in.2.1 3 = .ok (.ifCond .lt 14, 3) := by decide +kernel
theorem d_X8_in_6 : decode mi_X8_in.2.1 6 = .ok (.lload_n 0, 1) := by decide +kernel
theorem d_X8_in_7 : decode mi_X8_in.2.1 7 = .ok (.lload 4, 2) := by decide +kernel
theorem d_X8_in_9 : decode mi_X8_in.2.1 9 = .ok (.lcmp, 1) := by decide +kernel
theorem d_X8_in_10 : decode mi_X8_in.2.1 10 = .ok (.ifCond .gt 7, 3) := by decide +kernel
theorem d_X8_in_13 : decode mi_X8_in.2.1 13 = .ok (.iconst 1, 1) := by decide +kernel
theorem d_X8_in_14 : decode mi_X8_in.2.1 14 = .ok (.goto 4, 3) := by decide +kernel
theorem d_X8_in_17 : decode mi_X8_in.2.1 17 = .ok (.iconst 0, 1) := by decide +kernel
theorem d_X8_in_18 : decode mi_X8_in.2.1 18 = .ok (.ireturn, 1) := by decide +kernel
def f_X8_in (v0 : Int64) (v2 : Int64) (v4 : Int64) (σ : SS) : Option (Int32 × SS) := if (lg_cmp v0 v2) < 0 then (some ((0 : Int32), σ)) else (if 0 < (lg_cmp v0 v4) then (some ((0 : Int32), σ)) else (some ((1 : Int32), σ)))
set_option maxRecDepth 20000 in
theorem t_X8_in {d : Nat} {b : Nat × Nat} {v0 : Int64} {v2 : Int64} {v4 : Int64} {σ : SS} {r : Int32} {σ' : SS} (h : f_X8_in v0 v2 v4 σ = some (r, σ')) : MM d b mi_X8_in [vL v0, vL v2, vL v4] σ (some (vI r), σ') := by
  refine MM.of (lv := [some (vL v0), none, some (vL v2), none, some (vL v4), none]) (by decide +kernel) rfl rfl (fun X Y => ?_)
  rw [f_X8_in] at h
  refine r_lload_n (pc' := 1) d_X8_in_0 rfl rfl rfl ?_
  refine r_lload_n (pc' := 2) d_X8_in_1 rfl rfl rfl ?_
  refine r_lcmp (pc' := 3) d_X8_in_2 rfl ?_
  refine r_if_lt (pcT := 17) (pc' := 6) d_X8_in_3 rfl rfl h (fun _ h => ?_) (fun _ h => ?_)
  · refine r_iconst (pc' := 18) d_X8_in_17 ci_0 rfl ?_
    exact r_zret d_X8_in_18 rfl (Or.inl rfl) h
  · refine r_lload_n (pc' := 7) d_X8_in_6 rfl rfl rfl ?_
    refine r_lload (pc' := 9) d_X8_in_7 rfl rfl ?_
    refine r_lcmp (pc' := 10) d_X8_in_9 rfl ?_
    refine r_if_gt (pcT := 17) (pc' := 13) d_X8_in_10 rfl rfl h (fun _ h => ?_) (fun _ h => ?_)
    · refine r_iconst (pc' := 18) d_X8_in_17 ci_0 rfl ?_
      exact r_zret d_X8_in_18 rfl (Or.inl rfl) h
    · refine r_iconst (pc' := 14) d_X8_in_13 ci_1 rfl ?_
      refine r_goto (pc' := 18) d_X8_in_14 rfl ?_
      exact r_zret d_X8_in_18 rfl (Or.inr rfl) h
/-! OctagonYardModel.isPiece(I)Z -/
def mi_X8_isPiece : MI := (yX8_isPiece, cX8_isPiece, 2, (some .boolean))
theorem d_X8_isPiece_0 : decode mi_X8_isPiece.2.1 0 = .ok (.iload_n 1, 1) := by decide +kernel
theorem d_X8_isPiece_1 : decode mi_X8_isPiece.2.1 1 = .ok (.i2l, 1) := by decide +kernel
theorem d_X8_isPiece_2 : decode mi_X8_isPiece.2.1 2 = .ok (.lconst 0, 1) := by decide +kernel
theorem d_X8_isPiece_3 : decode mi_X8_isPiece.2.1 3 = .ok (.aload_n 0, 1) := by decide +kernel
theorem d_X8_isPiece_4 : decode mi_X8_isPiece.2.1 4 = .ok (.getfield 135, 3) := by decide +kernel
theorem d_X8_isPiece_7 : decode mi_X8_isPiece.2.1 7 = .ok (.iconst 1, 1) := by decide +kernel
theorem d_X8_isPiece_8 : decode mi_X8_isPiece.2.1 8 = .ok (.isub, 1) := by decide +kernel
theorem d_X8_isPiece_9 : decode mi_X8_isPiece.2.1 9 = .ok (.i2l, 1) := by decide +kernel
theorem d_X8_isPiece_10 : decode mi_X8_isPiece.2.1 10 = .ok (.invokestatic 139, 3) := by decide +kernel
theorem d_X8_isPiece_13 : decode mi_X8_isPiece.2.1 13 = .ok (.ifCond .eq 16, 3) := by decide +kernel
theorem d_X8_isPiece_16 : decode mi_X8_isPiece.2.1 16 = .ok (.aload_n 0, 1) := by decide +kernel
theorem d_X8_isPiece_17 : decode mi_X8_isPiece.2.1 17 = .ok (.getfield 28, 3) := by decide +kernel
theorem d_X8_isPiece_20 : decode mi_X8_isPiece.2.1 20 = .ok (.iload_n 1, 1) := by decide +kernel
theorem d_X8_isPiece_21 : decode mi_X8_isPiece.2.1 21 = .ok (.baload, 1) := by decide +kernel
theorem d_X8_isPiece_22 : decode mi_X8_isPiece.2.1 22 = .ok (.ifCond .eq 7, 3) := by decide +kernel
theorem d_X8_isPiece_25 : decode mi_X8_isPiece.2.1 25 = .ok (.iconst 1, 1) := by decide +kernel
theorem d_X8_isPiece_26 : decode mi_X8_isPiece.2.1 26 = .ok (.goto 4, 3) := by decide +kernel
theorem d_X8_isPiece_29 : decode mi_X8_isPiece.2.1 29 = .ok (.iconst 0, 1) := by decide +kernel
theorem d_X8_isPiece_30 : decode mi_X8_isPiece.2.1 30 = .ok (.ireturn, 1) := by decide +kernel
theorem in_8 : ∀ w ∈ u_ws RX8 TX8 49, w ∈ mtbl := by decide +kernel
theorem fl_X8_28 : FL RX8 28 8 49 7 := ⟨RX8, TX8, rfl, by decide, rfl, by decide +kernel, in_8⟩
theorem fl_X8_135 : FL RX8 135 8 49 6 := ⟨RX8, TX8, rfl, by decide, rfl, by decide +kernel, in_8⟩
theorem cw_X8_139 : CT RX8 139 mi_X8_in 3 := by unfold CT; decide +kernel
def f_X8_isPiece (v1 : Int32) (σ : SS) : Option (Int32 × SS) := cal (f_X8_in (Int32.toInt64 v1) (0 : Int64) (Int32.toInt64 ((σ.1 25 0 6) - (1 : Int32))) σ) (fun x2 s1 => if x2 = 0 then (some ((0 : Int32), s1)) else (chk (inr v1 60) (if (s1.1 47 0 (ix v1)) = 0 then (some ((0 : Int32), s1)) else (some ((1 : Int32), s1)))))
set_option maxRecDepth 20000 in
theorem t_X8_isPiece {d : Nat} {b : Nat × Nat} {v1 : Int32} {σ : SS} {r : Int32} {σ' : SS} (h : f_X8_isPiece v1 σ = some (r, σ')) : MM (d + 1) b mi_X8_isPiece [vR 25 0, vI v1] σ (some (vI r), σ') := by
  refine MM.of (lv := [some (vR 25 0), some (vI v1)]) (by decide +kernel) rfl rfl (fun X Y => ?_)
  rw [f_X8_isPiece] at h
  refine r_iload_n (pc' := 1) d_X8_isPiece_0 rfl rfl rfl ?_
  refine r_i2l (pc' := 2) d_X8_isPiece_1 rfl ?_
  refine r_lconst (pc' := 3) (x := 0) d_X8_isPiece_2 rfl rfl ?_
  refine r_aload_n (pc' := 4) d_X8_isPiece_3 rfl rfl rfl ?_
  refine r_get (v := vI _) (pc' := 7) fl_X8_135 d_X8_isPiece_4 rfl rfl (fun _ => trivial) rfl ?_
  refine r_iconst (pc' := 8) d_X8_isPiece_7 ci_1 rfl ?_
  refine r_isub (pc' := 9) d_X8_isPiece_8 rfl ?_
  refine r_i2l (pc' := 10) d_X8_isPiece_9 rfl ?_
  refine s3_i (mc := mi_X8_in) (bc := (0, 0)) (b' := _) (pc' := 13) cw_X8_139 d_X8_isPiece_10 rfl (Nat.zero_add _).symm (Nat.zero_add _).symm rfl h (fun _ _ e => t_X8_in e) (fun x2 s1 h => ?_)
  refine r_if_eq (pcT := 29) (pc' := 16) d_X8_isPiece_13 rfl rfl h (fun _ h => ?_) (fun _ h => ?_)
  · refine r_iconst (pc' := 30) d_X8_isPiece_29 ci_0 rfl ?_
    exact r_zret d_X8_isPiece_30 rfl (Or.inl rfl) h
  · refine r_aload_n (pc' := 17) d_X8_isPiece_16 rfl rfl rfl ?_
    refine r_get (v := vR 47 _) (pc' := 20) fl_X8_28 d_X8_isPiece_17 rfl rfl (fun g => Or.inl ⟨rfl, g.2⟩) rfl ?_
    refine r_iload_n (pc' := 21) d_X8_isPiece_20 rfl rfl rfl ?_
    refine r_baload (pc' := 22) d_X8_isPiece_21 rfl (fun _ => rfl) rfl h (fun h => ?_)
    refine r_if_eq (pcT := 29) (pc' := 25) d_X8_isPiece_22 rfl rfl h (fun _ h => ?_) (fun _ h => ?_)
    · refine r_iconst (pc' := 30) d_X8_isPiece_29 ci_0 rfl ?_
      exact r_zret d_X8_isPiece_30 rfl (Or.inl rfl) h
    · refine r_iconst (pc' := 26) d_X8_isPiece_25 ci_1 rfl ?_
      refine r_goto (pc' := 30) d_X8_isPiece_26 rfl ?_
      exact r_zret d_X8_isPiece_30 rfl (Or.inr rfl) h
/-! OctagonYardModel.isLet(II)Z -/
def mi_X8_isLet : MI := (yX8_isLet, cX8_isLet, 4, (some .boolean))
theorem d_X8_isLet_0 : decode mi_X8_isLet.2.1 0 = .ok (.iconst 0, 1) := by decide +kernel
theorem d_X8_isLet_1 : decode mi_X8_isLet.2.1 1 = .ok (.istore_n 3, 1) := by decide +kernel
theorem d_X8_isLet_2 : decode mi_X8_isLet.2.1 2 = .ok (.iload_n 3, 1) := by decide +kernel
theorem d_X8_isLet_3 : decode mi_X8_isLet.2.1 3 = .ok (.bipush 8, 2) := by decide +kernel
theorem d_X8_isLet_5 : decode mi_X8_isLet.2.1 5 = .ok (.if_icmp .ge 39, 3) := by decide +kernel
theorem d_X8_isLet_8 : decode mi_X8_isLet.2.1 8 = .ok (.aload_n 0, 1) := by decide +kernel
theorem d_X8_isLet_9 : decode mi_X8_isLet.2.1 9 = .ok (.getfield 7, 3) := by decide +kernel
theorem d_X8_isLet_12 : decode mi_X8_isLet.2.1 12 = .ok (.iload_n 3, 1) := by decide +kernel
theorem d_X8_isLet_13 : decode mi_X8_isLet.2.1 13 = .ok (.iaload, 1) := by decide +kernel
theorem d_X8_isLet_14 : decode mi_X8_isLet.2.1 14 = .ok (.iload_n 1, 1) := by decide +kernel
theorem d_X8_isLet_15 : decode mi_X8_isLet.2.1 15 = .ok (.imul, 1) := by decide +kernel
theorem d_X8_isLet_16 : decode mi_X8_isLet.2.1 16 = .ok (.aload_n 0, 1) := by decide +kernel
theorem d_X8_isLet_17 : decode mi_X8_isLet.2.1 17 = .ok (.getfield 13, 3) := by decide +kernel
theorem d_X8_isLet_20 : decode mi_X8_isLet.2.1 20 = .ok (.iload_n 3, 1) := by decide +kernel
theorem d_X8_isLet_21 : decode mi_X8_isLet.2.1 21 = .ok (.iaload, 1) := by decide +kernel
theorem d_X8_isLet_22 : decode mi_X8_isLet.2.1 22 = .ok (.iload_n 2, 1) := by decide +kernel
theorem d_X8_isLet_23 : decode mi_X8_isLet.2.1 23 = .ok (.imul, 1) := by decide +kernel
theorem d_X8_isLet_24 : decode mi_X8_isLet.2.1 24 = .ok (.iadd, 1) := by decide +kernel
theorem d_X8_isLet_25 : decode mi_X8_isLet.2.1 25 = .ok (.iconst 2, 1) := by decide +kernel
theorem d_X8_isLet_26 : decode mi_X8_isLet.2.1 26 = .ok (.aload_n 0, 1) := by decide +kernel
theorem d_X8_isLet_27 : decode mi_X8_isLet.2.1 27 = .ok (.getfield 47, 3) := by decide +kernel
theorem d_X8_isLet_30 : decode mi_X8_isLet.2.1 30 = .ok (.iload_n 3, 1) := by decide +kernel
theorem d_X8_isLet_31 : decode mi_X8_isLet.2.1 31 = .ok (.iaload, 1) := by decide +kernel
theorem d_X8_isLet_32 : decode mi_X8_isLet.2.1 32 = .ok (.imul, 1) := by decide +kernel
theorem d_X8_isLet_33 : decode mi_X8_isLet.2.1 33 = .ok (.if_icmp .le 5, 3) := by decide +kernel
theorem d_X8_isLet_36 : decode mi_X8_isLet.2.1 36 = .ok (.iconst 0, 1) := by decide +kernel
theorem d_X8_isLet_37 : decode mi_X8_isLet.2.1 37 = .ok (.ireturn, 1) := by decide +kernel
theorem d_X8_isLet_38 : decode mi_X8_isLet.2.1 38 = .ok (.iinc 3 1, 3) := by decide +kernel
theorem d_X8_isLet_41 : decode mi_X8_isLet.2.1 41 = .ok (.goto (-39), 3) := by decide +kernel
theorem d_X8_isLet_44 : decode mi_X8_isLet.2.1 44 = .ok (.iconst 1, 1) := by decide +kernel
theorem d_X8_isLet_45 : decode mi_X8_isLet.2.1 45 = .ok (.ireturn, 1) := by decide +kernel
theorem fl_X8_7 : FL RX8 7 8 49 0 := ⟨RX8, TX8, rfl, by decide, rfl, by decide +kernel, in_8⟩
theorem fl_X8_13 : FL RX8 13 8 49 1 := ⟨RX8, TX8, rfl, by decide, rfl, by decide +kernel, in_8⟩
theorem fl_X8_47 : FL RX8 47 8 49 13 := ⟨RX8, TX8, rfl, by decide, rfl, by decide +kernel, in_8⟩
def f_X8_isLet_2 : Nat → Int32 → Int32 → Int32 → SS → Option (Int32 × SS)
  | 0, _, _, _, _ => none
  | n + 1, v1, v2, v3, σ => if (8 : Int32) ≤ v3 then (some ((1 : Int32), σ)) else (chk (inr v3 8) (chk (inr v3 8) (chk (inr v3 8) (if (((σ.1 40 0 (ix v3)) * v1) + ((σ.1 41 0 (ix v3)) * v2)) ≤ ((2 : Int32) * (σ.1 53 0 (ix v3))) then (lt_ (v3 + (1 : Int32)) (fun x1 => f_X8_isLet_2 n v1 v2 x1 σ)) else (some ((0 : Int32), σ))))))
set_option maxRecDepth 20000 in
theorem t_X8_isLet_2 {d : Nat} {X : MX} {Y : MY} {b : Nat × Nat} {r : Int32} {σ' : SS} : ∀ (n : Nat) (v1 : Int32) (v2 : Int32) (v3 : Int32) (σ : SS), f_X8_isLet_2 n v1 v2 v3 σ = some (r, σ') → WM d X Y b mi_X8_isLet 2 [some (vR 25 0), some (vI v1), some (vI v2), some (vI v3)] [] σ (some (vI r), σ') := by
  intro n
  induction n with
  | zero => intro _ _ _ σ h; cases h
  | succ n ih =>
    intro v1 v2 v3 σ h
    rw [f_X8_isLet_2] at h
    refine r_iload_n (pc' := 3) d_X8_isLet_2 rfl rfl rfl ?_
    refine r_bipush (pc' := 5) d_X8_isLet_3 cb_8 rfl ?_
    refine r_icmp_ge (pcT := 44) (pc' := 8) d_X8_isLet_5 rfl rfl h (fun _ h => ?_) (fun _ h => ?_)
    · refine r_iconst (pc' := 45) d_X8_isLet_44 ci_1 rfl ?_
      exact r_zret d_X8_isLet_45 rfl (Or.inr rfl) h
    · refine r_aload_n (pc' := 9) d_X8_isLet_8 rfl rfl rfl ?_
      refine r_get (v := vR 40 _) (pc' := 12) fl_X8_7 d_X8_isLet_9 rfl rfl (fun g => Or.inl ⟨rfl, g.2⟩) rfl ?_
      refine r_iload_n (pc' := 13) d_X8_isLet_12 rfl rfl rfl ?_
      refine r_iaload (pc' := 14) d_X8_isLet_13 rfl (fun _ => rfl) rfl h (fun h => ?_)
      refine r_iload_n (pc' := 15) d_X8_isLet_14 rfl rfl rfl ?_
      refine r_imul (pc' := 16) d_X8_isLet_15 rfl ?_
      refine r_aload_n (pc' := 17) d_X8_isLet_16 rfl rfl rfl ?_
      refine r_get (v := vR 41 _) (pc' := 20) fl_X8_13 d_X8_isLet_17 rfl rfl (fun g => Or.inl ⟨rfl, g.2⟩) rfl ?_
      refine r_iload_n (pc' := 21) d_X8_isLet_20 rfl rfl rfl ?_
      refine r_iaload (pc' := 22) d_X8_isLet_21 rfl (fun _ => rfl) rfl h (fun h => ?_)
      refine r_iload_n (pc' := 23) d_X8_isLet_22 rfl rfl rfl ?_
      refine r_imul (pc' := 24) d_X8_isLet_23 rfl ?_
      refine r_iadd (pc' := 25) d_X8_isLet_24 rfl ?_
      refine r_iconst (pc' := 26) d_X8_isLet_25 ci_2 rfl ?_
      refine r_aload_n (pc' := 27) d_X8_isLet_26 rfl rfl rfl ?_
      refine r_get (v := vR 53 _) (pc' := 30) fl_X8_47 d_X8_isLet_27 rfl rfl (fun g => Or.inl ⟨rfl, g.2⟩) rfl ?_
      refine r_iload_n (pc' := 31) d_X8_isLet_30 rfl rfl rfl ?_
      refine r_iaload (pc' := 32) d_X8_isLet_31 rfl (fun _ => rfl) rfl h (fun h => ?_)
      refine r_imul (pc' := 33) d_X8_isLet_32 rfl ?_
      refine r_icmp_le (pcT := 38) (pc' := 36) d_X8_isLet_33 rfl rfl h (fun _ h => ?_) (fun _ h => ?_)
      · refine l_iinc (pc' := 41) d_X8_isLet_38 rfl ci_1 rfl rfl rfl h (fun x1 h => ?_)
        refine r_goto (pc' := 2) d_X8_isLet_41 rfl ?_
        exact WM.drop [] rfl (ih _ _ _ _ h)
      · refine r_iconst (pc' := 37) d_X8_isLet_36 ci_0 rfl ?_
        exact r_zret d_X8_isLet_37 rfl (Or.inl rfl) h
def f_X8_isLet (v1 : Int32) (v2 : Int32) (σ : SS) : Option (Int32 × SS) := f_X8_isLet_2 FU v1 v2 (0 : Int32) σ
set_option maxRecDepth 20000 in
theorem t_X8_isLet {d : Nat} {b : Nat × Nat} {v1 : Int32} {v2 : Int32} {σ : SS} {r : Int32} {σ' : SS} (h : f_X8_isLet v1 v2 σ = some (r, σ')) : MM d b mi_X8_isLet [vR 25 0, vI v1, vI v2] σ (some (vI r), σ') := by
  refine MM.of (lv := [some (vR 25 0), some (vI v1), some (vI v2), none]) (by decide +kernel) rfl rfl (fun X Y => ?_)
  rw [f_X8_isLet] at h
  refine r_iconst (pc' := 1) d_X8_isLet_0 ci_0 rfl ?_
  refine r_istore_n (pc' := 2) d_X8_isLet_1 rfl rfl rfl rfl ?_
  exact WM.drop [] rfl (t_X8_isLet_2 _ _ _ _ _ h)
/-! OctagonYardModel.point(II)V -/
def mi_X8_point : MI := (yX8_point, cX8_point, 5, none)
theorem d_X8_point_0 : decode mi_X8_point.2.1 0 = .ok (.aload_n 0, 1) := by decide +kernel
theorem d_X8_point_1 : decode mi_X8_point.2.1 1 = .ok (.iload_n 1, 1) := by decide +kernel
theorem d_X8_point_2 : decode mi_X8_point.2.1 2 = .ok (.iload_n 2, 1) := by decide +kernel
theorem d_X8_point_3 : decode mi_X8_point.2.1 3 = .ok (.invokevirtual 143, 3) := by decide +kernel
theorem d_X8_point_6 : decode mi_X8_point.2.1 6 = .ok (.ifCond .ne 7, 3) := by decide +kernel
theorem d_X8_point_9 : decode mi_X8_point.2.1 9 = .ok (.iconst 1, 1) := by decide +kernel
theorem d_X8_point_10 : decode mi_X8_point.2.1 10 = .ok (.goto 4, 3) := by decide +kernel
theorem d_X8_point_13 : decode mi_X8_point.2.1 13 = .ok (.iconst 0, 1) := by decide +kernel
theorem d_X8_point_14 : decode mi_X8_point.2.1 14 = .ok (.istore_n 3, 1) := by decide +kernel
theorem d_X8_point_15 : decode mi_X8_point.2.1 15 = .ok (.iconst 0, 1) := by decide +kernel
theorem d_X8_point_16 : decode mi_X8_point.2.1 16 = .ok (.istore 4, 2) := by decide +kernel
theorem d_X8_point_18 : decode mi_X8_point.2.1 18 = .ok (.iload 4, 2) := by decide +kernel
theorem d_X8_point_20 : decode mi_X8_point.2.1 20 = .ok (.aload_n 0, 1) := by decide +kernel
theorem d_X8_point_21 : decode mi_X8_point.2.1 21 = .ok (.getfield 147, 3) := by decide +kernel
theorem d_X8_point_24 : decode mi_X8_point.2.1 24 = .ok (.if_icmp .ge 41, 3) := by decide +kernel
theorem d_X8_point_27 : decode mi_X8_point.2.1 27 = .ok (.iload_n 3, 1) := by decide +kernel
theorem d_X8_point_28 : decode mi_X8_point.2.1 28 = .ok (.ifCond .ne 37, 3) := by decide +kernel
theorem d_X8_point_31 : decode mi_X8_point.2.1 31 = .ok (.aload_n 0, 1) := by decide +kernel
theorem d_X8_point_32 : decode mi_X8_point.2.1 32 = .ok (.getfield 50, 3) := by decide +kernel
theorem d_X8_point_35 : decode mi_X8_point.2.1 35 = .ok (.iload 4, 2) := by decide +kernel
theorem d_X8_point_37 : decode mi_X8_point.2.1 37 = .ok (.iaload, 1) := by decide +kernel
theorem d_X8_point_38 : decode mi_X8_point.2.1 38 = .ok (.iload_n 1, 1) := by decide +kernel
theorem d_X8_point_39 : decode mi_X8_point.2.1 39 = .ok (.if_icmp .ne 18, 3) := by decide +kernel
theorem d_X8_point_42 : decode mi_X8_point.2.1 42 = .ok (.aload_n 0, 1) := by decide +kernel
theorem d_X8_point_43 : decode mi_X8_point.2.1 43 = .ok (.getfield 53, 3) := by decide +kernel
theorem d_X8_point_46 : decode mi_X8_point.2.1 46 = .ok (.iload 4, 2) := by decide +kernel
theorem d_X8_point_48 : decode mi_X8_point.2.1 48 = .ok (.iaload, 1) := by decide +kernel
theorem d_X8_point_49 : decode mi_X8_point.2.1 49 = .ok (.iload_n 2, 1) := by decide +kernel
theorem d_X8_point_50 : decode mi_X8_point.2.1 50 = .ok (.if_icmp .ne 7, 3) := by decide +kernel
theorem d_X8_point_53 : decode mi_X8_point.2.1 53 = .ok (.iconst 1, 1) := by decide +kernel
theorem d_X8_point_54 : decode mi_X8_point.2.1 54 = .ok (.goto 4, 3) := by decide +kernel
theorem d_X8_point_57 : decode mi_X8_point.2.1 57 = .ok (.iconst 0, 1) := by decide +kernel
theorem d_X8_point_58 : decode mi_X8_point.2.1 58 = .ok (.istore_n 3, 1) := by decide +kernel
theorem d_X8_point_59 : decode mi_X8_point.2.1 59 = .ok (.iinc 4 1, 3) := by decide +kernel
theorem d_X8_point_62 : decode mi_X8_point.2.1 62 = .ok (.goto (-44), 3) := by decide +kernel
theorem d_X8_point_65 : decode mi_X8_point.2.1 65 = .ok (.iload_n 3, 1) := by decide +kernel
theorem d_X8_point_66 : decode mi_X8_point.2.1 66 = .ok (.ifCond .ne 33, 3) := by decide +kernel
theorem d_X8_point_69 : decode mi_X8_point.2.1 69 = .ok (.aload_n 0, 1) := by decide +kernel
theorem d_X8_point_70 : decode mi_X8_point.2.1 70 = .ok (.getfield 50, 3) := by decide +kernel
theorem d_X8_point_73 : decode mi_X8_point.2.1 73 = .ok (.aload_n 0, 1) := by decide +kernel
theorem d_X8_point_74 : decode mi_X8_point.2.1 74 = .ok (.getfield 147, 3) := by decide +kernel
theorem d_X8_point_77 : decode mi_X8_point.2.1 77 = .ok (.iload_n 1, 1) := by decide +kernel
theorem d_X8_point_78 : decode mi_X8_point.2.1 78 = .ok (.iastore, 1) := by decide +kernel
theorem d_X8_point_79 : decode mi_X8_point.2.1 79 = .ok (.aload_n 0, 1) := by decide +kernel
theorem d_X8_point_80 : decode mi_X8_point.2.1 80 = .ok (.getfield 53, 3) := by decide +kernel
theorem d_X8_point_83 : decode mi_X8_point.2.1 83 = .ok (.aload_n 0, 1) := by decide +kernel
theorem d_X8_point_84 : decode mi_X8_point.2.1 84 = .ok (.getfield 147, 3) := by decide +kernel
theorem d_X8_point_87 : decode mi_X8_point.2.1 87 = .ok (.iload_n 2, 1) := by decide +kernel
theorem d_X8_point_88 : decode mi_X8_point.2.1 88 = .ok (.iastore, 1) := by decide +kernel
theorem d_X8_point_89 : decode mi_X8_point.2.1 89 = .ok (.aload_n 0, 1) := by decide +kernel
theorem d_X8_point_90 : decode mi_X8_point.2.1 90 = .ok (.dup, 1) := by decide +kernel
theorem d_X8_point_91 : decode mi_X8_point.2.1 91 = .ok (.getfield 147, 3) := by decide +kernel
theorem d_X8_point_94 : decode mi_X8_point.2.1 94 = .ok (.iconst 1, 1) := by decide +kernel
theorem d_X8_point_95 : decode mi_X8_point.2.1 95 = .ok (.iadd, 1) := by decide +kernel
theorem d_X8_point_96 : decode mi_X8_point.2.1 96 = .ok (.putfield 147, 3) := by decide +kernel
theorem d_X8_point_99 : decode mi_X8_point.2.1 99 = .ok (.return_, 1) := by decide +kernel
theorem fl_X8_50 : FL RX8 50 8 49 15 := ⟨RX8, TX8, rfl, by decide, rfl, by decide +kernel, in_8⟩
theorem fl_X8_53 : FL RX8 53 8 49 16 := ⟨RX8, TX8, rfl, by decide, rfl, by decide +kernel, in_8⟩
theorem fl_X8_147 : FL RX8 147 8 49 14 := ⟨RX8, TX8, rfl, by decide, rfl, by decide +kernel, in_8⟩
theorem fw_8_14 : FW 8 49 14 .int := ⟨RX8, TX8, tyX8, rfl, rfl, by decide +kernel, tyX8_ok, nmX8⟩
theorem cw_X8_143 : CV RX8 143 mi_X8_isLet 2 := by unfold CV; decide +kernel
def f_X8_point_65 (v1 : Int32) (v2 : Int32) (v3 : Int32) (σ : SS) : Option (Unit × SS) := if v3 = 0 then (chk (inr (σ.1 25 0 14) 32) (lt_ (up σ 55 0 (ix (σ.1 25 0 14)) v1) (fun s1 => chk (inr (s1.1 25 0 14) 32) (lt_ (up s1 56 0 (ix (s1.1 25 0 14)) v2) (fun s2 => lt_ (up s2 25 0 14 ((s2.1 25 0 14) + (1 : Int32))) (fun s3 => some ((), s3))))))) else (some ((), σ))
set_option maxRecDepth 20000 in
theorem t_X8_point_65 {d : Nat} {X : MX} {Y : MY} {b : Nat × Nat} {r : Unit} {σ' : SS} {v1 : Int32} {v2 : Int32} {v3 : Int32} {σ : SS} (h : f_X8_point_65 v1 v2 v3 σ = some (r, σ')) : WM (d + 1) X Y b mi_X8_point 65 [some (vR 25 0), some (vI v1), some (vI v2), some (vI v3), none] [] σ (none, σ') := by
  rw [f_X8_point_65] at h
  refine r_iload_n (pc' := 66) d_X8_point_65 rfl rfl rfl ?_
  refine r_if_ne (pcT := 99) (pc' := 69) d_X8_point_66 rfl rfl h (fun _ h => ?_) (fun _ h => ?_)
  · refine r_aload_n (pc' := 70) d_X8_point_69 rfl rfl rfl ?_
    refine r_get (v := vR 55 _) (pc' := 73) fl_X8_50 d_X8_point_70 rfl rfl (fun g => Or.inl ⟨rfl, g.2⟩) rfl ?_
    refine r_aload_n (pc' := 74) d_X8_point_73 rfl rfl rfl ?_
    refine r_get (v := vI _) (pc' := 77) fl_X8_147 d_X8_point_74 rfl rfl (fun _ => trivial) rfl ?_
    refine r_iload_n (pc' := 78) d_X8_point_77 rfl rfl rfl ?_
    refine l_iastore (pc' := 79) d_X8_point_78 rfl (fun _ => rfl) (by decide) (by decide) (fun _ => rfl) rfl h (fun s1 h => ?_)
    refine r_aload_n (pc' := 80) d_X8_point_79 rfl rfl rfl ?_
    refine r_get (v := vR 56 _) (pc' := 83) fl_X8_53 d_X8_point_80 rfl rfl (fun g => Or.inl ⟨rfl, g.2⟩) rfl ?_
    refine r_aload_n (pc' := 84) d_X8_point_83 rfl rfl rfl ?_
    refine r_get (v := vI _) (pc' := 87) fl_X8_147 d_X8_point_84 rfl rfl (fun _ => trivial) rfl ?_
    refine r_iload_n (pc' := 88) d_X8_point_87 rfl rfl rfl ?_
    refine l_iastore (pc' := 89) d_X8_point_88 rfl (fun _ => rfl) (by decide) (by decide) (fun _ => rfl) rfl h (fun s2 h => ?_)
    refine r_aload_n (pc' := 90) d_X8_point_89 rfl rfl rfl ?_
    refine r_dup (pc' := 91) d_X8_point_90 rfl rfl ?_
    refine r_get (v := vI _) (pc' := 94) fl_X8_147 d_X8_point_91 rfl rfl (fun _ => trivial) rfl ?_
    refine r_iconst (pc' := 95) d_X8_point_94 ci_1 rfl ?_
    refine r_iadd (pc' := 96) d_X8_point_95 rfl ?_
    refine l_put (k := 14) (pc' := 99) fl_X8_147 fw_8_14 rfl rfl d_X8_point_96 rfl (by decide) (by decide) rfl rfl h (fun s3 h => ?_)
    exact r_vret d_X8_point_99 rfl h
  · exact r_vret d_X8_point_99 rfl h
def f_X8_point_58 (K18 : Int32 → Int32 → Int32 → Int32 → SS → Option (Unit × SS)) (v1 : Int32) (v2 : Int32) (v4 : Int32) (u0 : Int32) (σ : SS) : Option (Unit × SS) := lt_ (v4 + (1 : Int32)) (fun x1 => K18 v1 v2 u0 x1 σ)
set_option maxRecDepth 20000 in
theorem t_X8_point_58 {d : Nat} {X : MX} {Y : MY} {b : Nat × Nat} {r : Unit} {σ' : SS} {K18 : Int32 → Int32 → Int32 → Int32 → SS → Option (Unit × SS)} {v1 : Int32} {v2 : Int32} {v4 : Int32} {u0 : Int32} (hK18 : ∀ (v1 : Int32) (v2 : Int32) (v3 : Int32) (v4 : Int32) (σ : SS), K18 v1 v2 v3 v4 σ = some (r, σ') → WM (d + 1) X Y b mi_X8_point 18 [some (vR 25 0), some (vI v1), some (vI v2), some (vI v3), some (vI v4)] [] σ (none, σ')) {σ : SS} (h : f_X8_point_58 K18 v1 v2 v4 u0 σ = some (r, σ')) : WM (d + 1) X Y b mi_X8_point 58 [some (vR 25 0), some (vI v1), some (vI v2), none, some (vI v4)] [vI u0] σ (none, σ') := by
  rw [f_X8_point_58] at h
  refine r_istore_n (pc' := 59) d_X8_point_58 rfl rfl rfl rfl ?_
  refine l_iinc (pc' := 62) d_X8_point_59 rfl ci_1 rfl rfl rfl h (fun x1 h => ?_)
  refine r_goto (pc' := 18) d_X8_point_62 rfl ?_
  exact WM.drop [] rfl (hK18 _ _ _ _ _ h)
def f_X8_point_57 (K18 : Int32 → Int32 → Int32 → Int32 → SS → Option (Unit × SS)) (v1 : Int32) (v2 : Int32) (v4 : Int32) (σ : SS) : Option (Unit × SS) := f_X8_point_58 K18 v1 v2 v4 (0 : Int32) σ
set_option maxRecDepth 20000 in
theorem t_X8_point_57 {d : Nat} {X : MX} {Y : MY} {b : Nat × Nat} {r : Unit} {σ' : SS} {K18 : Int32 → Int32 → Int32 → Int32 → SS → Option (Unit × SS)} {v1 : Int32} {v2 : Int32} {v4 : Int32} (hK18 : ∀ (v1 : Int32) (v2 : Int32) (v3 : Int32) (v4 : Int32) (σ : SS), K18 v1 v2 v3 v4 σ = some (r, σ') → WM (d + 1) X Y b mi_X8_point 18 [some (vR 25 0), some (vI v1), some (vI v2), some (vI v3), some (vI v4)] [] σ (none, σ')) {σ : SS} (h : f_X8_point_57 K18 v1 v2 v4 σ = some (r, σ')) : WM (d + 1) X Y b mi_X8_point 57 [some (vR 25 0), some (vI v1), some (vI v2), none, some (vI v4)] [] σ (none, σ') := by
  rw [f_X8_point_57] at h
  refine r_iconst (pc' := 58) d_X8_point_57 ci_0 rfl ?_
  exact WM.drop [] rfl (t_X8_point_58 hK18 h)
def f_X8_point_18 : Nat → Int32 → Int32 → Int32 → Int32 → SS → Option (Unit × SS)
  | 0, _, _, _, _, _ => none
  | n + 1, v1, v2, v3, v4, σ => if (σ.1 25 0 14) ≤ v4 then (f_X8_point_65 v1 v2 v3 σ) else (if v3 = 0 then (chk (inr v4 32) (if (σ.1 55 0 (ix v4)) = v1 then (chk (inr v4 32) (if (σ.1 56 0 (ix v4)) = v2 then (f_X8_point_58 (f_X8_point_18 n) v1 v2 v4 (1 : Int32) σ) else (f_X8_point_57 (f_X8_point_18 n) v1 v2 v4 σ))) else (f_X8_point_57 (f_X8_point_18 n) v1 v2 v4 σ))) else (f_X8_point_65 v1 v2 v3 σ))
set_option maxRecDepth 20000 in
theorem t_X8_point_18 {d : Nat} {X : MX} {Y : MY} {b : Nat × Nat} {r : Unit} {σ' : SS} : ∀ (n : Nat) (v1 : Int32) (v2 : Int32) (v3 : Int32) (v4 : Int32) (σ : SS), f_X8_point_18 n v1 v2 v3 v4 σ = some (r, σ') → WM (d + 1) X Y b mi_X8_point 18 [some (vR 25 0), some (vI v1), some (vI v2), some (vI v3), some (vI v4)] [] σ (none, σ') := by
  intro n
  induction n with
  | zero => intro _ _ _ _ σ h; cases h
  | succ n ih =>
    intro v1 v2 v3 v4 σ h
    rw [f_X8_point_18] at h
    refine r_iload (pc' := 20) d_X8_point_18 rfl rfl ?_
    refine r_aload_n (pc' := 21) d_X8_point_20 rfl rfl rfl ?_
    refine r_get (v := vI _) (pc' := 24) fl_X8_147 d_X8_point_21 rfl rfl (fun _ => trivial) rfl ?_
    refine r_icmp_ge (pcT := 65) (pc' := 27) d_X8_point_24 rfl rfl h (fun _ h => ?_) (fun _ h => ?_)
    · exact WM.drop [4] rfl (t_X8_point_65 h)
    · refine r_iload_n (pc' := 28) d_X8_point_27 rfl rfl rfl ?_
      refine r_if_ne (pcT := 65) (pc' := 31) d_X8_point_28 rfl rfl h (fun _ h => ?_) (fun _ h => ?_)
      · refine r_aload_n (pc' := 32) d_X8_point_31 rfl rfl rfl ?_
        refine r_get (v := vR 55 _) (pc' := 35) fl_X8_50 d_X8_point_32 rfl rfl (fun g => Or.inl ⟨rfl, g.2⟩) rfl ?_
        refine r_iload (pc' := 37) d_X8_point_35 rfl rfl ?_
        refine r_iaload (pc' := 38) d_X8_point_37 rfl (fun _ => rfl) rfl h (fun h => ?_)
        refine r_iload_n (pc' := 39) d_X8_point_38 rfl rfl rfl ?_
        refine r_icmp_ne (pcT := 57) (pc' := 42) d_X8_point_39 rfl rfl h (fun _ h => ?_) (fun _ h => ?_)
        · refine r_aload_n (pc' := 43) d_X8_point_42 rfl rfl rfl ?_
          refine r_get (v := vR 56 _) (pc' := 46) fl_X8_53 d_X8_point_43 rfl rfl (fun g => Or.inl ⟨rfl, g.2⟩) rfl ?_
          refine r_iload (pc' := 48) d_X8_point_46 rfl rfl ?_
          refine r_iaload (pc' := 49) d_X8_point_48 rfl (fun _ => rfl) rfl h (fun h => ?_)
          refine r_iload_n (pc' := 50) d_X8_point_49 rfl rfl rfl ?_
          refine r_icmp_ne (pcT := 57) (pc' := 53) d_X8_point_50 rfl rfl h (fun _ h => ?_) (fun _ h => ?_)
          · refine r_iconst (pc' := 54) d_X8_point_53 ci_1 rfl ?_
            refine r_goto (pc' := 58) d_X8_point_54 rfl ?_
            exact WM.drop [3] rfl (t_X8_point_58 ih h)
          · exact WM.drop [3] rfl (t_X8_point_57 ih h)
        · exact WM.drop [3] rfl (t_X8_point_57 ih h)
      · exact WM.drop [4] rfl (t_X8_point_65 h)
def f_X8_point_14 (v1 : Int32) (v2 : Int32) (u0 : Int32) (σ : SS) : Option (Unit × SS) := f_X8_point_18 FU v1 v2 u0 (0 : Int32) σ
set_option maxRecDepth 20000 in
theorem t_X8_point_14 {d : Nat} {X : MX} {Y : MY} {b : Nat × Nat} {r : Unit} {σ' : SS} {v1 : Int32} {v2 : Int32} {u0 : Int32} {σ : SS} (h : f_X8_point_14 v1 v2 u0 σ = some (r, σ')) : WM (d + 1) X Y b mi_X8_point 14 [some (vR 25 0), some (vI v1), some (vI v2), none, none] [vI u0] σ (none, σ') := by
  rw [f_X8_point_14] at h
  refine r_istore_n (pc' := 15) d_X8_point_14 rfl rfl rfl rfl ?_
  refine r_iconst (pc' := 16) d_X8_point_15 ci_0 rfl ?_
  refine r_istore (pc' := 18) d_X8_point_16 rfl rfl rfl ?_
  exact WM.drop [] rfl (t_X8_point_18 _ _ _ _ _ _ h)
def f_X8_point (v1 : Int32) (v2 : Int32) (σ : SS) : Option (Unit × SS) := cal (f_X8_isLet v1 v2 σ) (fun x2 s1 => if x2 = 0 then (f_X8_point_14 v1 v2 (1 : Int32) s1) else (f_X8_point_14 v1 v2 (0 : Int32) s1))
set_option maxRecDepth 20000 in
theorem t_X8_point {d : Nat} {b : Nat × Nat} {v1 : Int32} {v2 : Int32} {σ : SS} {r : Unit} {σ' : SS} (h : f_X8_point v1 v2 σ = some (r, σ')) : MM (d + 1) b mi_X8_point [vR 25 0, vI v1, vI v2] σ (none, σ') := by
  refine MM.of (lv := [some (vR 25 0), some (vI v1), some (vI v2), none, none]) (by decide +kernel) rfl rfl (fun X Y => ?_)
  rw [f_X8_point] at h
  refine r_aload_n (pc' := 1) d_X8_point_0 rfl rfl rfl ?_
  refine r_iload_n (pc' := 2) d_X8_point_1 rfl rfl rfl ?_
  refine r_iload_n (pc' := 3) d_X8_point_2 rfl rfl rfl ?_
  refine v2_i (mc := mi_X8_isLet) (bc := (0, 0)) (b' := _) (pc' := 6) cw_X8_143 d_X8_point_3 rfl rfl rfl (Nat.zero_add _).symm (Nat.zero_add _).symm rfl h (fun _ _ e => t_X8_isLet e) (fun x2 s1 h => ?_)
  refine r_if_ne (pcT := 13) (pc' := 9) d_X8_point_6 rfl rfl h (fun _ h => ?_) (fun _ h => ?_)
  · refine r_iconst (pc' := 10) d_X8_point_9 ci_1 rfl ?_
    refine r_goto (pc' := 14) d_X8_point_10 rfl ?_
    exact WM.drop [] rfl (t_X8_point_14 h)
  · refine r_iconst (pc' := 14) d_X8_point_13 ci_0 rfl ?_
    exact WM.drop [] rfl (t_X8_point_14 h)
/-! OctagonYardModel.findPoints()V -/
def mi_X8_findPoints : MI := (yX8_findPoints, cX8_findPoints, 4, none)
theorem d_X8_findPoints_0 : decode mi_X8_findPoints.2.1 0 = .ok (.aload_n 0, 1) := by decide +kernel
theorem d_X8_findPoints_1 : decode mi_X8_findPoints.2.1 1 = .ok (.iconst 0, 1) := by decide +kernel
theorem d_X8_findPoints_2 : decode mi_X8_findPoints.2.1 2 = .ok (.putfield 147, 3) := by decide +kernel
theorem d_X8_findPoints_5 : decode mi_X8_findPoints.2.1 5 = .ok (.iconst 0, 1) := by decide +kernel
theorem d_X8_findPoints_6 : decode mi_X8_findPoints.2.1 6 = .ok (.istore_n 1, 1) := by decide +kernel
theorem d_X8_findPoints_7 : decode mi_X8_findPoints.2.1 7 = .ok (.iload_n 1, 1) := by decide +kernel
theorem d_X8_findPoints_8 : decode mi_X8_findPoints.2.1 8 = .ok (.bipush 8, 2) := by decide +kernel
theorem d_X8_findPoints_10 : decode mi_X8_findPoints.2.1 10 = .ok (.if_icmp .ge 120, 3) := by decide +kernel
theorem d_X8_findPoints_13 : decode mi_X8_findPoints.2.1 13 = .ok (.iconst 0, 1) := by decide +kernel
theorem d_X8_findPoints_14 : decode mi_X8_findPoints.2.1 14 = .ok (.istore_n 2, 1) := by decide +kernel
theorem d_X8_findPoints_15 : decode mi_X8_findPoints.2.1 15 = .ok (.iload_n 2, 1) := by decide +kernel
theorem d_X8_findPoints_16 : decode mi_X8_findPoints.2.1 16 = .ok (.iload_n 1, 1) := by decide +kernel
theorem d_X8_findPoints_17 : decode mi_X8_findPoints.2.1 17 = .ok (.if_icmp .ge 107, 3) := by decide +kernel
theorem d_X8_findPoints_20 : decode mi_X8_findPoints.2.1 20 = .ok (.aload_n 0, 1) := by decide +kernel
theorem d_X8_findPoints_21 : decode mi_X8_findPoints.2.1 21 = .ok (.getfield 7, 3) := by decide +kernel
theorem d_X8_findPoints_24 : decode mi_X8_findPoints.2.1 24 = .ok (.iload_n 1, 1) := by decide +kernel
theorem d_X8_findPoints_25 : decode mi_X8_findPoints.2.1 25 = .ok (.iaload, 1) := by decide +kernel
theorem d_X8_findPoints_26 : decode mi_X8_findPoints.2.1 26 = .ok (.aload_n 0, 1) := by decide +kernel
theorem d_X8_findPoints_27 : decode mi_X8_findPoints.2.1 27 = .ok (.getfield 13, 3) := by decide +kernel
theorem d_X8_findPoints_30 : decode mi_X8_findPoints.2.1 30 = .ok (.iload_n 2, 1) := by decide +kernel
theorem d_X8_findPoints_31 : decode mi_X8_findPoints.2.1 31 = .ok (.iaload, 1) := by decide +kernel
theorem d_X8_findPoints_32 : decode mi_X8_findPoints.2.1 32 = .ok (.imul, 1) := by decide +kernel
theorem d_X8_findPoints_33 : decode mi_X8_findPoints.2.1 33 = .ok (.aload_n 0, 1) := by decide +kernel
theorem d_X8_findPoints_34 : decode mi_X8_findPoints.2.1 34 = .ok (.getfield 13, 3) := by decide +kernel
theorem d_X8_findPoints_37 : decode mi_X8_findPoints.2.1 37 = .ok (.iload_n 1, 1) := by decide +kernel
theorem d_X8_findPoints_38 : decode mi_X8_findPoints.2.1 38 = .ok (.iaload, 1) := by decide +kernel
theorem d_X8_findPoints_39 : decode mi_X8_findPoints.2.1 39 = .ok (.aload_n 0, 1) := by decide +kernel
theorem d_X8_findPoints_40 : decode mi_X8_findPoints.2.1 40 = .ok (.getfield 7, 3) := by decide +kernel
theorem d_X8_findPoints_43 : decode mi_X8_findPoints.2.1 43 = .ok (.iload_n 2, 1) := by decide +kernel
theorem d_X8_findPoints_44 : decode mi_X8_findPoints.2.1 44 = .ok (.iaload, 1) := by decide +kernel
theorem d_X8_findPoints_45 : decode mi_X8_findPoints.2.1 45 = .ok (.imul, 1) := by decide +kernel
theorem d_X8_findPoints_46 : decode mi_X8_findPoints.2.1 46 = .ok (.isub, 1) := by decide +kernel
theorem d_X8_findPoints_47 : decode mi_X8_findPoints.2.1 47 = .ok (.istore_n 3, 1) := by decide +kernel
theorem d_X8_findPoints_48 : decode mi_X8_findPoints.2.1 48 = .ok (.iload_n 3, 1) := by decide +kernel
theorem d_X8_findPoints_49 : decode mi_X8_findPoints.2.1 49 = .ok (.ifCond .eq 69, 3) := by decide +kernel
theorem d_X8_findPoints_52 : decode mi_X8_findPoints.2.1 52 = .ok (.aload_n 0, 1) := by decide +kernel
theorem d_X8_findPoints_53 : decode mi_X8_findPoints.2.1 53 = .ok (.iconst 2, 1) := by decide +kernel
theorem d_X8_findPoints_54 : decode mi_X8_findPoints.2.1 54 = .ok (.aload_n 0, 1) := by decide +kernel
theorem d_X8_findPoints_55 : decode mi_X8_findPoints.2.1 55 = .ok (.getfield 47, 3) := by decide +kernel
theorem d_X8_findPoints_58 : decode mi_X8_findPoints.2.1 58 = .ok (.iload_n 1, 1) := by decide +kernel
theorem d_X8_findPoints_59 : decode mi_X8_findPoints.2.1 59 = .ok (.iaload, 1) := by decide +kernel
theorem d_X8_findPoints_60 : decode mi_X8_findPoints.2.1 60 = .ok (.aload_n 0, 1) := by decide +kernel
theorem d_X8_findPoints_61 : decode mi_X8_findPoints.2.1 61 = .ok (.getfield 13, 3) := by decide +kernel
theorem d_X8_findPoints_64 : decode mi_X8_findPoints.2.1 64 = .ok (.iload_n 2, 1) := by decide +kernel
theorem d_X8_findPoints_65 : decode mi_X8_findPoints.2.1 65 = .ok (.iaload, 1) := by decide +kernel
theorem d_X8_findPoints_66 : decode mi_X8_findPoints.2.1 66 = .ok (.imul, 1) := by decide +kernel
theorem d_X8_findPoints_67 : decode mi_X8_findPoints.2.1 67 = .ok (.aload_n 0, 1) := by decide +kernel
theorem d_X8_findPoints_68 : decode mi_X8_findPoints.2.1 68 = .ok (.getfield 47, 3) := by decide +kernel
theorem d_X8_findPoints_71 : decode mi_X8_findPoints.2.1 71 = .ok (.iload_n 2, 1) := by decide +kernel
theorem d_X8_findPoints_72 : decode mi_X8_findPoints.2.1 72 = .ok (.iaload, 1) := by decide +kernel
theorem d_X8_findPoints_73 : decode mi_X8_findPoints.2.1 73 = .ok (.aload_n 0, 1) := by decide +kernel
theorem d_X8_findPoints_74 : decode mi_X8_findPoints.2.1 74 = .ok (.getfield 13, 3) := by decide +kernel
theorem d_X8_findPoints_77 : decode mi_X8_findPoints.2.1 77 = .ok (.iload_n 1, 1) := by decide +kernel
theorem d_X8_findPoints_78 : decode mi_X8_findPoints.2.1 78 = .ok (.iaload, 1) := by decide +kernel
theorem d_X8_findPoints_79 : decode mi_X8_findPoints.2.1 79 = .ok (.imul, 1) := by decide +kernel
theorem d_X8_findPoints_80 : decode mi_X8_findPoints.2.1 80 = .ok (.isub, 1) := by decide +kernel
theorem d_X8_findPoints_81 : decode mi_X8_findPoints.2.1 81 = .ok (.imul, 1) := by decide +kernel
theorem d_X8_findPoints_82 : decode mi_X8_findPoints.2.1 82 = .ok (.iload_n 3, 1) := by decide +kernel
theorem d_X8_findPoints_83 : decode mi_X8_findPoints.2.1 83 = .ok (.idiv, 1) := by decide +kernel
theorem d_X8_findPoints_84 : decode mi_X8_findPoints.2.1 84 = .ok (.iconst 2, 1) := by decide +kernel
theorem d_X8_findPoints_85 : decode mi_X8_findPoints.2.1 85 = .ok (.aload_n 0, 1) := by decide +kernel
theorem d_X8_findPoints_86 : decode mi_X8_findPoints.2.1 86 = .ok (.getfield 7, 3) := by decide +kernel
theorem d_X8_findPoints_89 : decode mi_X8_findPoints.2.1 89 = .ok (.iload_n 1, 1) := by decide +kernel
theorem d_X8_findPoints_90 : decode mi_X8_findPoints.2.1 90 = .ok (.iaload, 1) := by decide +kernel
theorem d_X8_findPoints_91 : decode mi_X8_findPoints.2.1 91 = .ok (.aload_n 0, 1) := by decide +kernel
theorem d_X8_findPoints_92 : decode mi_X8_findPoints.2.1 92 = .ok (.getfield 47, 3) := by decide +kernel
theorem d_X8_findPoints_95 : decode mi_X8_findPoints.2.1 95 = .ok (.iload_n 2, 1) := by decide +kernel
theorem d_X8_findPoints_96 : decode mi_X8_findPoints.2.1 96 = .ok (.iaload, 1) := by decide +kernel
theorem d_X8_findPoints_97 : decode mi_X8_findPoints.2.1 97 = .ok (.imul, 1) := by decide +kernel
theorem d_X8_findPoints_98 : decode mi_X8_findPoints.2.1 98 = .ok (.aload_n 0, 1) := by decide +kernel
theorem d_X8_findPoints_99 : decode mi_X8_findPoints.2.1 99 = .ok (.getfield 7, 3) := by decide +kernel
theorem d_X8_findPoints_102 : decode mi_X8_findPoints.2.1 102 = .ok (.iload_n 2, 1) := by decide +kernel
theorem d_X8_findPoints_103 : decode mi_X8_findPoints.2.1 103 = .ok (.iaload, 1) := by decide +kernel
theorem d_X8_findPoints_104 : decode mi_X8_findPoints.2.1 104 = .ok (.aload_n 0, 1) := by decide +kernel
theorem d_X8_findPoints_105 : decode mi_X8_findPoints.2.1 105 = .ok (.getfield 47, 3) := by decide +kernel
theorem d_X8_findPoints_108 : decode mi_X8_findPoints.2.1 108 = .ok (.iload_n 1, 1) := by decide +kernel
theorem d_X8_findPoints_109 : decode mi_X8_findPoints.2.1 109 = .ok (.iaload, 1) := by decide +kernel
theorem d_X8_findPoints_110 : decode mi_X8_findPoints.2.1 110 = .ok (.imul, 1) := by decide +kernel
theorem d_X8_findPoints_111 : decode mi_X8_findPoints.2.1 111 = .ok (.isub, 1) := by decide +kernel
theorem d_X8_findPoints_112 : decode mi_X8_findPoints.2.1 112 = .ok (.imul, 1) := by decide +kernel
theorem d_X8_findPoints_113 : decode mi_X8_findPoints.2.1 113 = .ok (.iload_n 3, 1) := by decide +kernel
theorem d_X8_findPoints_114 : decode mi_X8_findPoints.2.1 114 = .ok (.idiv, 1) := by decide +kernel
theorem d_X8_findPoints_115 : decode mi_X8_findPoints.2.1 115 = .ok (.invokevirtual 150, 3) := by decide +kernel
theorem d_X8_findPoints_118 : decode mi_X8_findPoints.2.1 118 = .ok (.iinc 2 1, 3) := by decide +kernel
theorem d_X8_findPoints_121 : decode mi_X8_findPoints.2.1 121 = .ok (.goto (-106), 3) := by decide +kernel
theorem d_X8_findPoints_124 : decode mi_X8_findPoints.2.1 124 = .ok (.iinc 1 1, 3) := by decide +kernel
theorem d_X8_findPoints_127 : decode mi_X8_findPoints.2.1 127 = .ok (.goto (-120), 3) := by decide +kernel
theorem d_X8_findPoints_130 : decode mi_X8_findPoints.2.1 130 = .ok (.return_, 1) := by decide +kernel
theorem cw_X8_150 : CV RX8 150 mi_X8_point 2 := by unfold CV; decide +kernel
def f_X8_findPoints_124 (K7 : Int32 → SS → Option (Unit × SS)) (v1 : Int32) (σ : SS) : Option (Unit × SS) := lt_ (v1 + (1 : Int32)) (fun x1 => K7 x1 σ)
set_option maxRecDepth 20000 in
theorem t_X8_findPoints_124 {d : Nat} {X : MX} {Y : MY} {b : Nat × Nat} {r : Unit} {σ' : SS} {K7 : Int32 → SS → Option (Unit × SS)} {v1 : Int32} (hK7 : ∀ (v1 : Int32) (σ : SS), K7 v1 σ = some (r, σ') → WM (d + 2) X Y b mi_X8_findPoints 7 [some (vR 25 0), some (vI v1), none, none] [] σ (none, σ')) {σ : SS} (h : f_X8_findPoints_124 K7 v1 σ = some (r, σ')) : WM (d + 2) X Y b mi_X8_findPoints 124 [some (vR 25 0), some (vI v1), none, none] [] σ (none, σ') := by
  rw [f_X8_findPoints_124] at h
  refine l_iinc (pc' := 127) d_X8_findPoints_124 rfl ci_1 rfl rfl rfl h (fun x1 h => ?_)
  refine r_goto (pc' := 7) d_X8_findPoints_127 rfl ?_
  exact WM.drop [] rfl (hK7 _ _ h)
def f_X8_findPoints_118 (K7 : Int32 → SS → Option (Unit × SS)) (K15 : Int32 → Int32 → SS → Option (Unit × SS)) (v1 : Int32) (v2 : Int32) (σ : SS) : Option (Unit × SS) := lt_ (v2 + (1 : Int32)) (fun x1 => K15 v1 x1 σ)
set_option maxRecDepth 20000 in
theorem t_X8_findPoints_118 {d : Nat} {X : MX} {Y : MY} {b : Nat × Nat} {r : Unit} {σ' : SS} {K7 : Int32 → SS → Option (Unit × SS)} {K15 : Int32 → Int32 → SS → Option (Unit × SS)} {v1 : Int32} {v2 : Int32} (hK7 : ∀ (v1 : Int32) (σ : SS), K7 v1 σ = some (r, σ') → WM (d + 2) X Y b mi_X8_findPoints 7 [some (vR 25 0), some (vI v1), none, none] [] σ (none, σ')) (hK15 : ∀ (v1 : Int32) (v2 : Int32) (σ : SS), K15 v1 v2 σ = some (r, σ') → WM (d + 2) X Y b mi_X8_findPoints 15 [some (vR 25 0), some (vI v1), some (vI v2), none] [] σ (none, σ')) {σ : SS} (h : f_X8_findPoints_118 K7 K15 v1 v2 σ = some (r, σ')) : WM (d + 2) X Y b mi_X8_findPoints 118 [some (vR 25 0), some (vI v1), some (vI v2), none] [] σ (none, σ') := by
  rw [f_X8_findPoints_118] at h
  refine l_iinc (pc' := 121) d_X8_findPoints_118 rfl ci_1 rfl rfl rfl h (fun x1 h => ?_)
  refine r_goto (pc' := 15) d_X8_findPoints_121 rfl ?_
  exact WM.drop [] rfl (hK15 _ _ _ h)
def f_X8_findPoints_15 (K7 : Int32 → SS → Option (Unit × SS)) : Nat → Int32 → Int32 → SS → Option (Unit × SS)
  | 0, _, _, _ => none
  | n + 1, v1, v2, σ => if v1 ≤ v2 then (f_X8_findPoints_124 K7 v1 σ) else (chk (inr v1 8) (chk (inr v2 8) (chk (inr v1 8) (chk (inr v2 8) (lt_ (((σ.1 40 0 (ix v1)) * (σ.1 41 0 (ix v2))) - ((σ.1 41 0 (ix v1)) * (σ.1 40 0 (ix v2)))) (fun x1 => if x1 = 0 then (f_X8_findPoints_118 K7 (f_X8_findPoints_15 K7 n) v1 v2 σ) else (chk (inr v1 8) (chk (inr v2 8) (chk (inr v2 8) (chk (inr v1 8) (chk (¬ x1 = 0) (chk (inr v1 8) (chk (inr v2 8) (chk (inr v2 8) (chk (inr v1 8) (chk (¬ x1 = 0) (cal (f_X8_point (((2 : Int32) * (((σ.1 53 0 (ix v1)) * (σ.1 41 0 (ix v2))) - ((σ.1 53 0 (ix v2)) * (σ.1 41 0 (ix v1))))) / x1) (((2 : Int32) * (((σ.1 40 0 (ix v1)) * (σ.1 53 0 (ix v2))) - ((σ.1 40 0 (ix v2)) * (σ.1 53 0 (ix v1))))) / x1) σ) (fun _ s4 => f_X8_findPoints_118 K7 (f_X8_findPoints_15 K7 n) v1 v2 s4))))))))))))))))))
set_option maxRecDepth 20000 in
theorem t_X8_findPoints_15 {d : Nat} {X : MX} {Y : MY} {b : Nat × Nat} {r : Unit} {σ' : SS} {K7 : Int32 → SS → Option (Unit × SS)} (hK7 : ∀ (v1 : Int32) (σ : SS), K7 v1 σ = some (r, σ') → WM (d + 2) X Y b mi_X8_findPoints 7 [some (vR 25 0), some (vI v1), none, none] [] σ (none, σ')) : ∀ (n : Nat) (v1 : Int32) (v2 : Int32) (σ : SS), f_X8_findPoints_15 K7 n v1 v2 σ = some (r, σ') → WM (d + 2) X Y b mi_X8_findPoints 15 [some (vR 25 0), some (vI v1), some (vI v2), none] [] σ (none, σ') := by
  intro n
  induction n with
  | zero => intro _ _ σ h; cases h
  | succ n ih =>
    intro v1 v2 σ h
    rw [f_X8_findPoints_15] at h
    refine r_iload_n (pc' := 16) d_X8_findPoints_15 rfl rfl rfl ?_
    refine r_iload_n (pc' := 17) d_X8_findPoints_16 rfl rfl rfl ?_
    refine r_icmp_ge (pcT := 124) (pc' := 20) d_X8_findPoints_17 rfl rfl h (fun _ h => ?_) (fun _ h => ?_)
    · exact WM.drop [2] rfl (t_X8_findPoints_124 hK7 h)
    · refine r_aload_n (pc' := 21) d_X8_findPoints_20 rfl rfl rfl ?_
      refine r_get (v := vR 40 _) (pc' := 24) fl_X8_7 d_X8_findPoints_21 rfl rfl (fun g => Or.inl ⟨rfl, g.2⟩) rfl ?_
      refine r_iload_n (pc' := 25) d_X8_findPoints_24 rfl rfl rfl ?_
      refine r_iaload (pc' := 26) d_X8_findPoints_25 rfl (fun _ => rfl) rfl h (fun h => ?_)
      refine r_aload_n (pc' := 27) d_X8_findPoints_26 rfl rfl rfl ?_
      refine r_get (v := vR 41 _) (pc' := 30) fl_X8_13 d_X8_findPoints_27 rfl rfl (fun g => Or.inl ⟨rfl, g.2⟩) rfl ?_
      refine r_iload_n (pc' := 31) d_X8_findPoints_30 rfl rfl rfl ?_
      refine r_iaload (pc' := 32) d_X8_findPoints_31 rfl (fun _ => rfl) rfl h (fun h => ?_)
      refine r_imul (pc' := 33) d_X8_findPoints_32 rfl ?_
      refine r_aload_n (pc' := 34) d_X8_findPoints_33 rfl rfl rfl ?_
      refine r_get (v := vR 41 _) (pc' := 37) fl_X8_13 d_X8_findPoints_34 rfl rfl (fun g => Or.inl ⟨rfl, g.2⟩) rfl ?_
      refine r_iload_n (pc' := 38) d_X8_findPoints_37 rfl rfl rfl ?_
      refine r_iaload (pc' := 39) d_X8_findPoints_38 rfl (fun _ => rfl) rfl h (fun h => ?_)
      refine r_aload_n (pc' := 40) d_X8_findPoints_39 rfl rfl rfl ?_
      refine r_get (v := vR 40 _) (pc' := 43) fl_X8_7 d_X8_findPoints_40 rfl rfl (fun g => Or.inl ⟨rfl, g.2⟩) rfl ?_
      refine r_iload_n (pc' := 44) d_X8_findPoints_43 rfl rfl rfl ?_
      refine r_iaload (pc' := 45) d_X8_findPoints_44 rfl (fun _ => rfl) rfl h (fun h => ?_)
      refine r_imul (pc' := 46) d_X8_findPoints_45 rfl ?_
      refine r_isub (pc' := 47) d_X8_findPoints_46 rfl ?_
      refine l_istore_n (pc' := 48) d_X8_findPoints_47 rfl rfl rfl rfl h (fun x1 h => ?_)
      refine r_iload_n (pc' := 49) d_X8_findPoints_48 rfl rfl rfl ?_
      refine r_if_eq (pcT := 118) (pc' := 52) d_X8_findPoints_49 rfl rfl h (fun _ h => ?_) (fun _ h => ?_)
      · exact WM.drop [3] rfl (t_X8_findPoints_118 hK7 ih h)
      · refine r_aload_n (pc' := 53) d_X8_findPoints_52 rfl rfl rfl ?_
        refine r_iconst (pc' := 54) d_X8_findPoints_53 ci_2 rfl ?_
        refine r_aload_n (pc' := 55) d_X8_findPoints_54 rfl rfl rfl ?_
        refine r_get (v := vR 53 _) (pc' := 58) fl_X8_47 d_X8_findPoints_55 rfl rfl (fun g => Or.inl ⟨rfl, g.2⟩) rfl ?_
        refine r_iload_n (pc' := 59) d_X8_findPoints_58 rfl rfl rfl ?_
        refine r_iaload (pc' := 60) d_X8_findPoints_59 rfl (fun _ => rfl) rfl h (fun h => ?_)
        refine r_aload_n (pc' := 61) d_X8_findPoints_60 rfl rfl rfl ?_
        refine r_get (v := vR 41 _) (pc' := 64) fl_X8_13 d_X8_findPoints_61 rfl rfl (fun g => Or.inl ⟨rfl, g.2⟩) rfl ?_
        refine r_iload_n (pc' := 65) d_X8_findPoints_64 rfl rfl rfl ?_
        refine r_iaload (pc' := 66) d_X8_findPoints_65 rfl (fun _ => rfl) rfl h (fun h => ?_)
        refine r_imul (pc' := 67) d_X8_findPoints_66 rfl ?_
        refine r_aload_n (pc' := 68) d_X8_findPoints_67 rfl rfl rfl ?_
        refine r_get (v := vR 53 _) (pc' := 71) fl_X8_47 d_X8_findPoints_68 rfl rfl (fun g => Or.inl ⟨rfl, g.2⟩) rfl ?_
        refine r_iload_n (pc' := 72) d_X8_findPoints_71 rfl rfl rfl ?_
        refine r_iaload (pc' := 73) d_X8_findPoints_72 rfl (fun _ => rfl) rfl h (fun h => ?_)
        refine r_aload_n (pc' := 74) d_X8_findPoints_73 rfl rfl rfl ?_
        refine r_get (v := vR 41 _) (pc' := 77) fl_X8_13 d_X8_findPoints_74 rfl rfl (fun g => Or.inl ⟨rfl, g.2⟩) rfl ?_
        refine r_iload_n (pc' := 78) d_X8_findPoints_77 rfl rfl rfl ?_
        refine r_iaload (pc' := 79) d_X8_findPoints_78 rfl (fun _ => rfl) rfl h (fun h => ?_)
        refine r_imul (pc' := 80) d_X8_findPoints_79 rfl ?_
        refine r_isub (pc' := 81) d_X8_findPoints_80 rfl ?_
        refine r_imul (pc' := 82) d_X8_findPoints_81 rfl ?_
        refine r_iload_n (pc' := 83) d_X8_findPoints_82 rfl rfl rfl ?_
        obtain ⟨z2, h⟩ := chk_t h
        refine r_idiv (pc' := 84) d_X8_findPoints_83 z2 rfl ?_
        refine r_iconst (pc' := 85) d_X8_findPoints_84 ci_2 rfl ?_
        refine r_aload_n (pc' := 86) d_X8_findPoints_85 rfl rfl rfl ?_
        refine r_get (v := vR 40 _) (pc' := 89) fl_X8_7 d_X8_findPoints_86 rfl rfl (fun g => Or.inl ⟨rfl, g.2⟩) rfl ?_
        refine r_iload_n (pc' := 90) d_X8_findPoints_89 rfl rfl rfl ?_
        refine r_iaload (pc' := 91) d_X8_findPoints_90 rfl (fun _ => rfl) rfl h (fun h => ?_)
        refine r_aload_n (pc' := 92) d_X8_findPoints_91 rfl rfl rfl ?_
        refine r_get (v := vR 53 _) (pc' := 95) fl_X8_47 d_X8_findPoints_92 rfl rfl (fun g => Or.inl ⟨rfl, g.2⟩) rfl ?_
        refine r_iload_n (pc' := 96) d_X8_findPoints_95 rfl rfl rfl ?_
        refine r_iaload (pc' := 97) d_X8_findPoints_96 rfl (fun _ => rfl) rfl h (fun h => ?_)
        refine r_imul (pc' := 98) d_X8_findPoints_97 rfl ?_
        refine r_aload_n (pc' := 99) d_X8_findPoints_98 rfl rfl rfl ?_
        refine r_get (v := vR 40 _) (pc' := 102) fl_X8_7 d_X8_findPoints_99 rfl rfl (fun g => Or.inl ⟨rfl, g.2⟩) rfl ?_
        refine r_iload_n (pc' := 103) d_X8_findPoints_102 rfl rfl rfl ?_
        refine r_iaload (pc' := 104) d_X8_findPoints_103 rfl (fun _ => rfl) rfl h (fun h => ?_)
        refine r_aload_n (pc' := 105) d_X8_findPoints_104 rfl rfl rfl ?_
        refine r_get (v := vR 53 _) (pc' := 108) fl_X8_47 d_X8_findPoints_105 rfl rfl (fun g => Or.inl ⟨rfl, g.2⟩) rfl ?_
        refine r_iload_n (pc' := 109) d_X8_findPoints_108 rfl rfl rfl ?_
        refine r_iaload (pc' := 110) d_X8_findPoints_109 rfl (fun _ => rfl) rfl h (fun h => ?_)
        refine r_imul (pc' := 111) d_X8_findPoints_110 rfl ?_
        refine r_isub (pc' := 112) d_X8_findPoints_111 rfl ?_
        refine r_imul (pc' := 113) d_X8_findPoints_112 rfl ?_
        refine r_iload_n (pc' := 114) d_X8_findPoints_113 rfl rfl rfl ?_
        obtain ⟨z3, h⟩ := chk_t h
        refine r_idiv (pc' := 115) d_X8_findPoints_114 z3 rfl ?_
        refine v2_v (mc := mi_X8_point) (bc := (0, 0)) (b' := _) (pc' := 118) cw_X8_150 d_X8_findPoints_115 rfl rfl rfl (Nat.zero_add _).symm (Nat.zero_add _).symm rfl h (fun _ _ e => t_X8_point e) (fun _ s4 h => ?_)
        exact WM.drop [3] rfl (t_X8_findPoints_118 hK7 ih h)
def f_X8_findPoints_7 : Nat → Int32 → SS → Option (Unit × SS)
  | 0, _, _ => none
  | n + 1, v1, σ => if (8 : Int32) ≤ v1 then (some ((), σ)) else (f_X8_findPoints_15 (f_X8_findPoints_7 n) FU v1 (0 : Int32) σ)
set_option maxRecDepth 20000 in
theorem t_X8_findPoints_7 {d : Nat} {X : MX} {Y : MY} {b : Nat × Nat} {r : Unit} {σ' : SS} : ∀ (n : Nat) (v1 : Int32) (σ : SS), f_X8_findPoints_7 n v1 σ = some (r, σ') → WM (d + 2) X Y b mi_X8_findPoints 7 [some (vR 25 0), some (vI v1), none, none] [] σ (none, σ') := by
  intro n
  induction n with
  | zero => intro _ σ h; cases h
  | succ n ih =>
    intro v1 σ h
    rw [f_X8_findPoints_7] at h
    refine r_iload_n (pc' := 8) d_X8_findPoints_7 rfl rfl rfl ?_
    refine r_bipush (pc' := 10) d_X8_findPoints_8 cb_8 rfl ?_
    refine r_icmp_ge (pcT := 130) (pc' := 13) d_X8_findPoints_10 rfl rfl h (fun _ h => ?_) (fun _ h => ?_)
    · exact r_vret d_X8_findPoints_130 rfl h
    · refine r_iconst (pc' := 14) d_X8_findPoints_13 ci_0 rfl ?_
      refine r_istore_n (pc' := 15) d_X8_findPoints_14 rfl rfl rfl rfl ?_
      exact WM.drop [] rfl (t_X8_findPoints_15 ih _ _ _ _ h)
def f_X8_findPoints (σ : SS) : Option (Unit × SS) := lt_ (up σ 25 0 14 (0 : Int32)) (fun s1 => f_X8_findPoints_7 FU (0 : Int32) s1)
set_option maxRecDepth 20000 in
theorem t_X8_findPoints {d : Nat} {b : Nat × Nat} {σ : SS} {r : Unit} {σ' : SS} (h : f_X8_findPoints σ = some (r, σ')) : MM (d + 2) b mi_X8_findPoints [vR 25 0] σ (none, σ') := by
  refine MM.of (lv := [some (vR 25 0), none, none, none]) (by decide +kernel) rfl rfl (fun X Y => ?_)
  rw [f_X8_findPoints] at h
  refine r_aload_n (pc' := 1) d_X8_findPoints_0 rfl rfl rfl ?_
  refine r_iconst (pc' := 2) d_X8_findPoints_1 ci_0 rfl ?_
  refine l_put (k := 14) (pc' := 5) fl_X8_147 fw_8_14 rfl rfl d_X8_findPoints_2 rfl (by decide) (by decide) rfl rfl h (fun s1 h => ?_)
  refine r_iconst (pc' := 6) d_X8_findPoints_5 ci_0 rfl ?_
  refine r_istore_n (pc' := 7) d_X8_findPoints_6 rfl rfl rfl rfl ?_
  exact WM.drop [] rfl (t_X8_findPoints_7 _ _ _ h)
/-! OctagonYardModel.findSide(I)V -/
def mi_X8_findSide : MI := (yX8_findSide, cX8_findSide, 6, none)
theorem d_X8_findSide_0 : decode mi_X8_findSide.2.1 0 = .ok (.bipush (-4), 2) := by decide +kernel
theorem d_X8_findSide_2 : decode mi_X8_findSide.2.1 2 = .ok (.istore_n 2, 1) := by decide +kernel
theorem d_X8_findSide_3 : decode mi_X8_findSide.2.1 3 = .ok (.bipush (-4), 2) := by decide +kernel
theorem d_X8_findSide_5 : decode mi_X8_findSide.2.1 5 = .ok (.istore_n 3, 1) := by decide +kernel
theorem d_X8_findSide_6 : decode mi_X8_findSide.2.1 6 = .ok (.iconst 0, 1) := by decide +kernel
theorem d_X8_findSide_7 : decode mi_X8_findSide.2.1 7 = .ok (.istore 4, 2) := by decide +kernel
theorem d_X8_findSide_9 : decode mi_X8_findSide.2.1 9 = .ok (.iload 4, 2) := by decide +kernel
theorem d_X8_findSide_11 : decode mi_X8_findSide.2.1 11 = .ok (.aload_n 0, 1) := by decide +kernel
theorem d_X8_findSide_12 : decode mi_X8_findSide.2.1 12 = .ok (.getfield 147, 3) := by decide +kernel
theorem d_X8_findSide_15 : decode mi_X8_findSide.2.1 15 = .ok (.if_icmp .ge 170, 3) := by decide +kernel
theorem d_X8_findSide_18 : decode mi_X8_findSide.2.1 18 = .ok (.aload_n 0, 1) := by decide +kernel
theorem d_X8_findSide_19 : decode mi_X8_findSide.2.1 19 = .ok (.getfield 7, 3) := by decide +kernel
theorem d_X8_findSide_22 : decode mi_X8_findSide.2.1 22 = .ok (.iload_n 1, 1) := by decide +kernel
theorem d_X8_findSide_23 : decode mi_X8_findSide.2.1 23 = .ok (.iaload, 1) := by decide +kernel
theorem d_X8_findSide_24 : decode mi_X8_findSide.2.1 24 = .ok (.aload_n 0, 1) := by decide +kernel
theorem d_X8_findSide_25 : decode mi_X8_findSide.2.1 25 = .ok (.getfield 50, 3) := by decide +kernel
theorem d_X8_findSide_28 : decode mi_X8_findSide.2.1 28 = .ok (.iload 4, 2) := by decide +kernel
theorem d_X8_findSide_30 : decode mi_X8_findSide.2.1 30 = .ok (.iaload, 1) := by decide +kernel
theorem d_X8_findSide_31 : decode mi_X8_findSide.2.1 31 = .ok (.imul, 1) := by decide +kernel
theorem d_X8_findSide_32 : decode mi_X8_findSide.2.1 32 = .ok (.aload_n 0, 1) := by decide +kernel
theorem d_X8_findSide_33 : decode mi_X8_findSide.2.1 33 = .ok (.getfield 13, 3) := by decide +kernel
theorem d_X8_findSide_36 : decode mi_X8_findSide.2.1 36 = .ok (.iload_n 1, 1) := by decide +kernel
theorem d_X8_findSide_37 : decode mi_X8_findSide.2.1 37 = .ok (.iaload, 1) := by decide +kernel
theorem d_X8_findSide_38 : decode mi_X8_findSide.2.1 38 = .ok (.aload_n 0, 1) := by decide +kernel
theorem d_X8_findSide_39 : decode mi_X8_findSide.2.1 39 = .ok (.getfield 53, 3) := by decide +kernel
theorem d_X8_findSide_42 : decode mi_X8_findSide.2.1 42 = .ok (.iload 4, 2) := by decide +kernel
theorem d_X8_findSide_44 : decode mi_X8_findSide.2.1 44 = .ok (.iaload, 1) := by decide +kernel
theorem d_X8_findSide_45 : decode mi_X8_findSide.2.1 45 = .ok (.imul, 1) := by decide +kernel
theorem d_X8_findSide_46 : decode mi_X8_findSide.2.1 46 = .ok (.iadd, 1) := by decide +kernel
theorem d_X8_findSide_47 : decode mi_X8_findSide.2.1 47 = .ok (.iconst 2, 1) := by decide +kernel
theorem d_X8_findSide_48 : decode mi_X8_findSide.2.1 48 = .ok (.aload_n 0, 1) := by decide +kernel
theorem d_X8_findSide_49 : decode mi_X8_findSide.2.1 49 = .ok (.getfield 47, 3) := by decide +kernel
theorem d_X8_findSide_52 : decode mi_X8_findSide.2.1 52 = .ok (.iload_n 1, 1) := by decide +kernel
theorem d_X8_findSide_53 : decode mi_X8_findSide.2.1 53 = .ok (.iaload, 1) := by decide +kernel
theorem d_X8_findSide_54 : decode mi_X8_findSide.2.1 54 = .ok (.imul, 1) := by decide +kernel
theorem d_X8_findSide_55 : decode mi_X8_findSide.2.1 55 = .ok (.if_icmp .ne 124, 3) := by decide +kernel
theorem d_X8_findSide_58 : decode mi_X8_findSide.2.1 58 = .ok (.aload_n 0, 1) := by decide +kernel
theorem d_X8_findSide_59 : decode mi_X8_findSide.2.1 59 = .ok (.getfield 7, 3) := by decide +kernel
theorem d_X8_findSide_62 : decode mi_X8_findSide.2.1 62 = .ok (.iload_n 1, 1) := by decide +kernel
theorem d_X8_findSide_63 : decode mi_X8_findSide.2.1 63 = .ok (.iaload, 1) := by decide +kernel
theorem d_X8_findSide_64 : decode mi_X8_findSide.2.1 64 = .ok (.aload_n 0, 1) := by decide +kernel
theorem d_X8_findSide_65 : decode mi_X8_findSide.2.1 65 = .ok (.getfield 53, 3) := by decide +kernel
theorem d_X8_findSide_68 : decode mi_X8_findSide.2.1 68 = .ok (.iload 4, 2) := by decide +kernel
theorem d_X8_findSide_70 : decode mi_X8_findSide.2.1 70 = .ok (.iaload, 1) := by decide +kernel
theorem d_X8_findSide_71 : decode mi_X8_findSide.2.1 71 = .ok (.imul, 1) := by decide +kernel
theorem d_X8_findSide_72 : decode mi_X8_findSide.2.1 72 = .ok (.aload_n 0, 1) := by decide +kernel
theorem d_X8_findSide_73 : decode mi_X8_findSide.2.1 73 = .ok (.getfield 13, 3) := by decide +kernel
theorem d_X8_findSide_76 : decode mi_X8_findSide.2.1 76 = .ok (.iload_n 1, 1) := by decide +kernel
theorem d_X8_findSide_77 : decode mi_X8_findSide.2.1 77 = .ok (.iaload, 1) := by decide +kernel
theorem d_X8_findSide_78 : decode mi_X8_findSide.2.1 78 = .ok (.aload_n 0, 1) := by decide +kernel
theorem d_X8_findSide_79 : decode mi_X8_findSide.2.1 79 = .ok (.getfield 50, 3) := by decide +kernel
theorem d_X8_findSide_82 : decode mi_X8_findSide.2.1 82 = .ok (.iload 4, 2) := by decide +kernel
theorem d_X8_findSide_84 : decode mi_X8_findSide.2.1 84 = .ok (.iaload, 1) := by decide +kernel
theorem d_X8_findSide_85 : decode mi_X8_findSide.2.1 85 = .ok (.imul, 1) := by decide +kernel
theorem d_X8_findSide_86 : decode mi_X8_findSide.2.1 86 = .ok (.isub, 1) := by decide +kernel
theorem d_X8_findSide_87 : decode mi_X8_findSide.2.1 87 = .ok (.istore 5, 2) := by decide +kernel
theorem d_X8_findSide_89 : decode mi_X8_findSide.2.1 89 = .ok (.iload_n 2, 1) := by decide +kernel
theorem d_X8_findSide_90 : decode mi_X8_findSide.2.1 90 = .ok (.bipush (-4), 2) := by decide +kernel
theorem d_X8_findSide_92 : decode mi_X8_findSide.2.1 92 = .ok (.if_icmp .eq 35, 3) := by decide +kernel
theorem d_X8_findSide_95 : decode mi_X8_findSide.2.1 95 = .ok (.iload 5, 2) := by decide +kernel
theorem d_X8_findSide_97 : decode mi_X8_findSide.2.1 97 = .ok (.aload_n 0, 1) := by decide +kernel
theorem d_X8_findSide_98 : decode mi_X8_findSide.2.1 98 = .ok (.getfield 7, 3) := by decide +kernel
theorem d_X8_findSide_101 : decode mi_X8_findSide.2.1 101 = .ok (.iload_n 1, 1) := by decide +kernel
theorem d_X8_findSide_102 : decode mi_X8_findSide.2.1 102 = .ok (.iaload, 1) := by decide +kernel
theorem d_X8_findSide_103 : decode mi_X8_findSide.2.1 103 = .ok (.aload_n 0, 1) := by decide +kernel
theorem d_X8_findSide_104 : decode mi_X8_findSide.2.1 104 = .ok (.getfield 53, 3) := by decide +kernel
theorem d_X8_findSide_107 : decode mi_X8_findSide.2.1 107 = .ok (.iload_n 2, 1) := by decide +kernel
theorem d_X8_findSide_108 : decode mi_X8_findSide.2.1 108 = .ok (.iaload, 1) := by decide +kernel
theorem d_X8_findSide_109 : decode mi_X8_findSide.2.1 109 = .ok (.imul, 1) := by decide +kernel
theorem d_X8_findSide_110 : decode mi_X8_findSide.2.1 110 = .ok (.aload_n 0, 1) := by decide +kernel
theorem d_X8_findSide_111 : decode mi_X8_findSide.2.1 111 = .ok (.getfield 13, 3) := by decide +kernel
theorem d_X8_findSide_114 : decode mi_X8_findSide.2.1 114 = .ok (.iload_n 1, 1) := by decide +kernel
theorem d_X8_findSide_115 : decode mi_X8_findSide.2.1 115 = .ok (.iaload, 1) := by decide +kernel
theorem d_X8_findSide_116 : decode mi_X8_findSide.2.1 116 = .ok (.aload_n 0, 1) := by decide +kernel
theorem d_X8_findSide_117 : decode mi_X8_findSide.2.1 117 = .ok (.getfield 50, 3) := by decide +kernel
theorem d_X8_findSide_120 : decode mi_X8_findSide.2.1 120 = .ok (.iload_n 2, 1) := by decide +kernel
theorem d_X8_findSide_121 : decode mi_X8_findSide.2.1 121 = .ok (.iaload, 1) := by decide +kernel
theorem d_X8_findSide_122 : decode mi_X8_findSide.2.1 122 = .ok (.imul, 1) := by decide +kernel
theorem d_X8_findSide_123 : decode mi_X8_findSide.2.1 123 = .ok (.isub, 1) := by decide +kernel
theorem d_X8_findSide_124 : decode mi_X8_findSide.2.1 124 = .ok (.if_icmp .ge 8, 3) := by decide +kernel
theorem d_X8_findSide_127 : decode mi_X8_findSide.2.1 127 = .ok (.iload 4, 2) := by decide +kernel
theorem d_X8_findSide_129 : decode mi_X8_findSide.2.1 129 = .ok (.goto 4, 3) := by decide +kernel
theorem d_X8_findSide_132 : decode mi_X8_findSide.2.1 132 = .ok (.iload_n 2, 1) := by decide +kernel
theorem d_X8_findSide_133 : decode mi_X8_findSide.2.1 133 = .ok (.istore_n 2, 1) := by decide +kernel
theorem d_X8_findSide_134 : decode mi_X8_findSide.2.1 134 = .ok (.iload_n 3, 1) := by decide +kernel
theorem d_X8_findSide_135 : decode mi_X8_findSide.2.1 135 = .ok (.bipush (-4), 2) := by decide +kernel
theorem d_X8_findSide_137 : decode mi_X8_findSide.2.1 137 = .ok (.if_icmp .eq 35, 3) := by decide +kernel
theorem d_X8_findSide_140 : decode mi_X8_findSide.2.1 140 = .ok (.iload 5, 2) := by decide +kernel
theorem d_X8_findSide_142 : decode mi_X8_findSide.2.1 142 = .ok (.aload_n 0, 1) := by decide +kernel
theorem d_X8_findSide_143 : decode mi_X8_findSide.2.1 143 = .ok (.getfield 7, 3) := by decide +kernel
theorem d_X8_findSide_146 : decode mi_X8_findSide.2.1 146 = .ok (.iload_n 1, 1) := by decide +kernel
theorem d_X8_findSide_147 : decode mi_X8_findSide.2.1 147 = .ok (.iaload, 1) := by decide +kernel
theorem d_X8_findSide_148 : decode mi_X8_findSide.2.1 148 = .ok (.aload_n 0, 1) := by decide +kernel
theorem d_X8_findSide_149 : decode mi_X8_findSide.2.1 149 = .ok (.getfield 53, 3) := by decide +kernel
theorem d_X8_findSide_152 : decode mi_X8_findSide.2.1 152 = .ok (.iload_n 3, 1) := by decide +kernel
theorem d_X8_findSide_153 : decode mi_X8_findSide.2.1 153 = .ok (.iaload, 1) := by decide +kernel
theorem d_X8_findSide_154 : decode mi_X8_findSide.2.1 154 = .ok (.imul, 1) := by decide +kernel
theorem d_X8_findSide_155 : decode mi_X8_findSide.2.1 155 = .ok (.aload_n 0, 1) := by decide +kernel
theorem d_X8_findSide_156 : decode mi_X8_findSide.2.1 156 = .ok (.getfield 13, 3) := by decide +kernel
theorem d_X8_findSide_159 : decode mi_X8_findSide.2.1 159 = .ok (.iload_n 1, 1) := by decide +kernel
theorem d_X8_findSide_160 : decode mi_X8_findSide.2.1 160 = .ok (.iaload, 1) := by decide +kernel
theorem d_X8_findSide_161 : decode mi_X8_findSide.2.1 161 = .ok (.aload_n 0, 1) := by decide +kernel
theorem d_X8_findSide_162 : decode mi_X8_findSide.2.1 162 = .ok (.getfield 50, 3) := by decide +kernel
theorem d_X8_findSide_165 : decode mi_X8_findSide.2.1 165 = .ok (.iload_n 3, 1) := by decide +kernel
theorem d_X8_findSide_166 : decode mi_X8_findSide.2.1 166 = .ok (.iaload, 1) := by decide +kernel
theorem d_X8_findSide_167 : decode mi_X8_findSide.2.1 167 = .ok (.imul, 1) := by decide +kernel
theorem d_X8_findSide_168 : decode mi_X8_findSide.2.1 168 = .ok (.isub, 1) := by decide +kernel
theorem d_X8_findSide_169 : decode mi_X8_findSide.2.1 169 = .ok (.if_icmp .le 8, 3) := by decide +kernel
theorem d_X8_findSide_172 : decode mi_X8_findSide.2.1 172 = .ok (.iload 4, 2) := by decide +kernel
theorem d_X8_findSide_174 : decode mi_X8_findSide.2.1 174 = .ok (.goto 4, 3) := by decide +kernel
theorem d_X8_findSide_177 : decode mi_X8_findSide.2.1 177 = .ok (.iload_n 3, 1) := by decide +kernel
theorem d_X8_findSide_178 : decode mi_X8_findSide.2.1 178 = .ok (.istore_n 3, 1) := by decide +kernel
theorem d_X8_findSide_179 : decode mi_X8_findSide.2.1 179 = .ok (.iinc 4 1, 3) := by decide +kernel
theorem d_X8_findSide_182 : decode mi_X8_findSide.2.1 182 = .ok (.goto (-173), 3) := by decide +kernel
theorem d_X8_findSide_185 : decode mi_X8_findSide.2.1 185 = .ok (.iload_n 2, 1) := by decide +kernel
theorem d_X8_findSide_186 : decode mi_X8_findSide.2.1 186 = .ok (.iload_n 3, 1) := by decide +kernel
theorem d_X8_findSide_187 : decode mi_X8_findSide.2.1 187 = .ok (.if_icmp .eq 83, 3) := by decide +kernel
theorem d_X8_findSide_190 : decode mi_X8_findSide.2.1 190 = .ok (.aload_n 0, 1) := by decide +kernel
theorem d_X8_findSide_191 : decode mi_X8_findSide.2.1 191 = .ok (.getfield 56, 3) := by decide +kernel
theorem d_X8_findSide_194 : decode mi_X8_findSide.2.1 194 = .ok (.aload_n 0, 1) := by decide +kernel
theorem d_X8_findSide_195 : decode mi_X8_findSide.2.1 195 = .ok (.getfield 157, 3) := by decide +kernel
theorem d_X8_findSide_198 : decode mi_X8_findSide.2.1 198 = .ok (.iload_n 1, 1) := by decide +kernel
theorem d_X8_findSide_199 : decode mi_X8_findSide.2.1 199 = .ok (.iastore, 1) := by decide +kernel
theorem d_X8_findSide_200 : decode mi_X8_findSide.2.1 200 = .ok (.aload_n 0, 1) := by decide +kernel
theorem d_X8_findSide_201 : decode mi_X8_findSide.2.1 201 = .ok (.getfield 59, 3) := by decide +kernel
theorem d_X8_findSide_204 : decode mi_X8_findSide.2.1 204 = .ok (.aload_n 0, 1) := by decide +kernel
theorem d_X8_findSide_205 : decode mi_X8_findSide.2.1 205 = .ok (.getfield 157, 3) := by decide +kernel
theorem d_X8_findSide_208 : decode mi_X8_findSide.2.1 208 = .ok (.aload_n 0, 1) := by decide +kernel
theorem d_X8_findSide_209 : decode mi_X8_findSide.2.1 209 = .ok (.getfield 50, 3) := by decide +kernel
theorem d_X8_findSide_212 : decode mi_X8_findSide.2.1 212 = .ok (.iload_n 2, 1) := by decide +kernel
theorem d_X8_findSide_213 : decode mi_X8_findSide.2.1 213 = .ok (.iaload, 1) := by decide +kernel
theorem d_X8_findSide_214 : decode mi_X8_findSide.2.1 214 = .ok (.iastore, 1) := by decide +kernel
theorem d_X8_findSide_215 : decode mi_X8_findSide.2.1 215 = .ok (.aload_n 0, 1) := by decide +kernel
theorem d_X8_findSide_216 : decode mi_X8_findSide.2.1 216 = .ok (.getfield 62, 3) := by decide +kernel
theorem d_X8_findSide_219 : decode mi_X8_findSide.2.1 219 = .ok (.aload_n 0, 1) := by decide +kernel
theorem d_X8_findSide_220 : decode mi_X8_findSide.2.1 220 = .ok (.getfield 157, 3) := by decide +kernel
theorem d_X8_findSide_223 : decode mi_X8_findSide.2.1 223 = .ok (.aload_n 0, 1) := by decide +kernel
theorem d_X8_findSide_224 : decode mi_X8_findSide.2.1 224 = .ok (.getfield 53, 3) := by decide +kernel
theorem d_X8_findSide_227 : decode mi_X8_findSide.2.1 227 = .ok (.iload_n 2, 1) := by decide +kernel
theorem d_X8_findSide_228 : decode mi_X8_findSide.2.1 228 = .ok (.iaload, 1) := by decide +kernel
theorem d_X8_findSide_229 : decode mi_X8_findSide.2.1 229 = .ok (.iastore, 1) := by decide +kernel
theorem d_X8_findSide_230 : decode mi_X8_findSide.2.1 230 = .ok (.aload_n 0, 1) := by decide +kernel
theorem d_X8_findSide_231 : decode mi_X8_findSide.2.1 231 = .ok (.getfield 65, 3) := by decide +kernel
theorem d_X8_findSide_234 : decode mi_X8_findSide.2.1 234 = .ok (.aload_n 0, 1) := by decide +kernel
theorem d_X8_findSide_235 : decode mi_X8_findSide.2.1 235 = .ok (.getfield 157, 3) := by decide +kernel
theorem d_X8_findSide_238 : decode mi_X8_findSide.2.1 238 = .ok (.aload_n 0, 1) := by decide +kernel
theorem d_X8_findSide_239 : decode mi_X8_findSide.2.1 239 = .ok (.getfield 50, 3) := by decide +kernel
theorem d_X8_findSide_242 : decode mi_X8_findSide.2.1 242 = .ok (.iload_n 3, 1) := by decide +kernel
theorem d_X8_findSide_243 : decode mi_X8_findSide.2.1 243 = .ok (.iaload, 1) := by decide +kernel
theorem d_X8_findSide_244 : decode mi_X8_findSide.2.1 244 = .ok (.iastore, 1) := by decide +kernel
theorem d_X8_findSide_245 : decode mi_X8_findSide.2.1 245 = .ok (.aload_n 0, 1) := by decide +kernel
theorem d_X8_findSide_246 : decode mi_X8_findSide.2.1 246 = .ok (.getfield 68, 3) := by decide +kernel
theorem d_X8_findSide_249 : decode mi_X8_findSide.2.1 249 = .ok (.aload_n 0, 1) := by decide +kernel
theorem d_X8_findSide_250 : decode mi_X8_findSide.2.1 250 = .ok (.getfield 157, 3) := by decide +kernel
theorem d_X8_findSide_253 : decode mi_X8_findSide.2.1 253 = .ok (.aload_n 0, 1) := by decide +kernel
theorem d_X8_findSide_254 : decode mi_X8_findSide.2.1 254 = .ok (.getfield 53, 3) := by decide +kernel
theorem d_X8_findSide_257 : decode mi_X8_findSide.2.1 257 = .ok (.iload_n 3, 1) := by decide +kernel
theorem d_X8_findSide_258 : decode mi_X8_findSide.2.1 258 = .ok (.iaload, 1) := by decide +kernel
theorem d_X8_findSide_259 : decode mi_X8_findSide.2.1 259 = .ok (.iastore, 1) := by decide +kernel
theorem d_X8_findSide_260 : decode mi_X8_findSide.2.1 260 = .ok (.aload_n 0, 1) := by decide +kernel
theorem d_X8_findSide_261 : decode mi_X8_findSide.2.1 261 = .ok (.dup, 1) := by decide +kernel
theorem d_X8_findSide_262 : decode mi_X8_findSide.2.1 262 = .ok (.getfield 157, 3) := by decide +kernel
theorem d_X8_findSide_265 : decode mi_X8_findSide.2.1 265 = .ok (.iconst 1, 1) := by decide +kernel
theorem d_X8_findSide_266 : decode mi_X8_findSide.2.1 266 = .ok (.iadd, 1) := by decide +kernel
theorem d_X8_findSide_267 : decode mi_X8_findSide.2.1 267 = .ok (.putfield 157, 3) := by decide +kernel
theorem d_X8_findSide_270 : decode mi_X8_findSide.2.1 270 = .ok (.return_, 1) := by decide +kernel
theorem fl_X8_56 : FL RX8 56 8 49 18 := ⟨RX8, TX8, rfl, by decide, rfl, by decide +kernel, in_8⟩
theorem fl_X8_59 : FL RX8 59 8 49 19 := ⟨RX8, TX8, rfl, by decide, rfl, by decide +kernel, in_8⟩
theorem fl_X8_62 : FL RX8 62 8 49 20 := ⟨RX8, TX8, rfl, by decide, rfl, by decide +kernel, in_8⟩
theorem fl_X8_65 : FL RX8 65 8 49 21 := ⟨RX8, TX8, rfl, by decide, rfl, by decide +kernel, in_8⟩
theorem fl_X8_68 : FL RX8 68 8 49 22 := ⟨RX8, TX8, rfl, by decide, rfl, by decide +kernel, in_8⟩
theorem fl_X8_157 : FL RX8 157 8 49 17 := ⟨RX8, TX8, rfl, by decide, rfl, by decide +kernel, in_8⟩
theorem fw_8_17 : FW 8 49 17 .int := ⟨RX8, TX8, tyX8, rfl, rfl, by decide +kernel, tyX8_ok, nmX8⟩
def f_X8_findSide_185 (v1 : Int32) (v2 : Int32) (v3 : Int32) (σ : SS) : Option (Unit × SS) := if v2 = v3 then (some ((), σ)) else (chk (inr (σ.1 25 0 17) 8) (lt_ (up σ 58 0 (ix (σ.1 25 0 17)) v1) (fun s1 => chk (inr v2 32) (chk (inr (s1.1 25 0 17) 8) (lt_ (up s1 59 0 (ix (s1.1 25 0 17)) (s1.1 55 0 (ix v2))) (fun s2 => chk (inr v2 32) (chk (inr (s2.1 25 0 17) 8) (lt_ (up s2 60 0 (ix (s2.1 25 0 17)) (s2.1 56 0 (ix v2))) (fun s3 => chk (inr v3 32) (chk (inr (s3.1 25 0 17) 8) (lt_ (up s3 61 0 (ix (s3.1 25 0 17)) (s3.1 55 0 (ix v3))) (fun s4 => chk (inr v3 32) (chk (inr (s4.1 25 0 17) 8) (lt_ (up s4 62 0 (ix (s4.1 25 0 17)) (s4.1 56 0 (ix v3))) (fun s5 => lt_ (up s5 25 0 17 ((s5.1 25 0 17) + (1 : Int32))) (fun s6 => some ((), s6)))))))))))))))))
set_option maxRecDepth 20000 in
theorem t_X8_findSide_185 {d : Nat} {X : MX} {Y : MY} {b : Nat × Nat} {r : Unit} {σ' : SS} {v1 : Int32} {v2 : Int32} {v3 : Int32} {σ : SS} (h : f_X8_findSide_185 v1 v2 v3 σ = some (r, σ')) : WM d X Y b mi_X8_findSide 185 [some (vR 25 0), some (vI v1), some (vI v2), some (vI v3), none, none] [] σ (none, σ') := by
  rw [f_X8_findSide_185] at h
  refine r_iload_n (pc' := 186) d_X8_findSide_185 rfl rfl rfl ?_
  refine r_iload_n (pc' := 187) d_X8_findSide_186 rfl rfl rfl ?_
  refine r_icmp_eq (pcT := 270) (pc' := 190) d_X8_findSide_187 rfl rfl h (fun _ h => ?_) (fun _ h => ?_)
  · exact r_vret d_X8_findSide_270 rfl h
  · refine r_aload_n (pc' := 191) d_X8_findSide_190 rfl rfl rfl ?_
    refine r_get (v := vR 58 _) (pc' := 194) fl_X8_56 d_X8_findSide_191 rfl rfl (fun g => Or.inl ⟨rfl, g.2⟩) rfl ?_
    refine r_aload_n (pc' := 195) d_X8_findSide_194 rfl rfl rfl ?_
    refine r_get (v := vI _) (pc' := 198) fl_X8_157 d_X8_findSide_195 rfl rfl (fun _ => trivial) rfl ?_
    refine r_iload_n (pc' := 199) d_X8_findSide_198 rfl rfl rfl ?_
    refine l_iastore (pc' := 200) d_X8_findSide_199 rfl (fun _ => rfl) (by decide) (by decide) (fun _ => rfl) rfl h (fun s1 h => ?_)
    refine r_aload_n (pc' := 201) d_X8_findSide_200 rfl rfl rfl ?_
    refine r_get (v := vR 59 _) (pc' := 204) fl_X8_59 d_X8_findSide_201 rfl rfl (fun g => Or.inl ⟨rfl, g.2⟩) rfl ?_
    refine r_aload_n (pc' := 205) d_X8_findSide_204 rfl rfl rfl ?_
    refine r_get (v := vI _) (pc' := 208) fl_X8_157 d_X8_findSide_205 rfl rfl (fun _ => trivial) rfl ?_
    refine r_aload_n (pc' := 209) d_X8_findSide_208 rfl rfl rfl ?_
    refine r_get (v := vR 55 _) (pc' := 212) fl_X8_50 d_X8_findSide_209 rfl rfl (fun g => Or.inl ⟨rfl, g.2⟩) rfl ?_
    refine r_iload_n (pc' := 213) d_X8_findSide_212 rfl rfl rfl ?_
    refine r_iaload (pc' := 214) d_X8_findSide_213 rfl (fun _ => rfl) rfl h (fun h => ?_)
    refine l_iastore (pc' := 215) d_X8_findSide_214 rfl (fun _ => rfl) (by decide) (by decide) (fun _ => rfl) rfl h (fun s2 h => ?_)
    refine r_aload_n (pc' := 216) d_X8_findSide_215 rfl rfl rfl ?_
    refine r_get (v := vR 60 _) (pc' := 219) fl_X8_62 d_X8_findSide_216 rfl rfl (fun g => Or.inl ⟨rfl, g.2⟩) rfl ?_
    refine r_aload_n (pc' := 220) d_X8_findSide_219 rfl rfl rfl ?_
    refine r_get (v := vI _) (pc' := 223) fl_X8_157 d_X8_findSide_220 rfl rfl (fun _ => trivial) rfl ?_
    refine r_aload_n (pc' := 224) d_X8_findSide_223 rfl rfl rfl ?_
    refine r_get (v := vR 56 _) (pc' := 227) fl_X8_53 d_X8_findSide_224 rfl rfl (fun g => Or.inl ⟨rfl, g.2⟩) rfl ?_
    refine r_iload_n (pc' := 228) d_X8_findSide_227 rfl rfl rfl ?_
    refine r_iaload (pc' := 229) d_X8_findSide_228 rfl (fun _ => rfl) rfl h (fun h => ?_)
    refine l_iastore (pc' := 230) d_X8_findSide_229 rfl (fun _ => rfl) (by decide) (by decide) (fun _ => rfl) rfl h (fun s3 h => ?_)
    refine r_aload_n (pc' := 231) d_X8_findSide_230 rfl rfl rfl ?_
    refine r_get (v := vR 61 _) (pc' := 234) fl_X8_65 d_X8_findSide_231 rfl rfl (fun g => Or.inl ⟨rfl, g.2⟩) rfl ?_
    refine r_aload_n (pc' := 235) d_X8_findSide_234 rfl rfl rfl ?_
    refine r_get (v := vI _) (pc' := 238) fl_X8_157 d_X8_findSide_235 rfl rfl (fun _ => trivial) rfl ?_
    refine r_aload_n (pc' := 239) d_X8_findSide_238 rfl rfl rfl ?_
    refine r_get (v := vR 55 _) (pc' := 242) fl_X8_50 d_X8_findSide_239 rfl rfl (fun g => Or.inl ⟨rfl, g.2⟩) rfl ?_
    refine r_iload_n (pc' := 243) d_X8_findSide_242 rfl rfl rfl ?_
    refine r_iaload (pc' := 244) d_X8_findSide_243 rfl (fun _ => rfl) rfl h (fun h => ?_)
    refine l_iastore (pc' := 245) d_X8_findSide_244 rfl (fun _ => rfl) (by decide) (by decide) (fun _ => rfl) rfl h (fun s4 h => ?_)
    refine r_aload_n (pc' := 246) d_X8_findSide_245 rfl rfl rfl ?_
    refine r_get (v := vR 62 _) (pc' := 249) fl_X8_68 d_X8_findSide_246 rfl rfl (fun g => Or.inl ⟨rfl, g.2⟩) rfl ?_
    refine r_aload_n (pc' := 250) d_X8_findSide_249 rfl rfl rfl ?_
    refine r_get (v := vI _) (pc' := 253) fl_X8_157 d_X8_findSide_250 rfl rfl (fun _ => trivial) rfl ?_
    refine r_aload_n (pc' := 254) d_X8_findSide_253 rfl rfl rfl ?_
    refine r_get (v := vR 56 _) (pc' := 257) fl_X8_53 d_X8_findSide_254 rfl rfl (fun g => Or.inl ⟨rfl, g.2⟩) rfl ?_
    refine r_iload_n (pc' := 258) d_X8_findSide_257 rfl rfl rfl ?_
    refine r_iaload (pc' := 259) d_X8_findSide_258 rfl (fun _ => rfl) rfl h (fun h => ?_)
    refine l_iastore (pc' := 260) d_X8_findSide_259 rfl (fun _ => rfl) (by decide) (by decide) (fun _ => rfl) rfl h (fun s5 h => ?_)
    refine r_aload_n (pc' := 261) d_X8_findSide_260 rfl rfl rfl ?_
    refine r_dup (pc' := 262) d_X8_findSide_261 rfl rfl ?_
    refine r_get (v := vI _) (pc' := 265) fl_X8_157 d_X8_findSide_262 rfl rfl (fun _ => trivial) rfl ?_
    refine r_iconst (pc' := 266) d_X8_findSide_265 ci_1 rfl ?_
    refine r_iadd (pc' := 267) d_X8_findSide_266 rfl ?_
    refine l_put (k := 17) (pc' := 270) fl_X8_157 fw_8_17 rfl rfl d_X8_findSide_267 rfl (by decide) (by decide) rfl rfl h (fun s6 h => ?_)
    exact r_vret d_X8_findSide_270 rfl h
def f_X8_findSide_179 (K9 : Int32 → Int32 → Int32 → Int32 → SS → Option (Unit × SS)) (v1 : Int32) (v2 : Int32) (v3 : Int32) (v4 : Int32) (σ : SS) : Option (Unit × SS) := lt_ (v4 + (1 : Int32)) (fun x1 => K9 v1 v2 v3 x1 σ)
set_option maxRecDepth 20000 in
theorem t_X8_findSide_179 {d : Nat} {X : MX} {Y : MY} {b : Nat × Nat} {r : Unit} {σ' : SS} {K9 : Int32 → Int32 → Int32 → Int32 → SS → Option (Unit × SS)} {v1 : Int32} {v2 : Int32} {v3 : Int32} {v4 : Int32} (hK9 : ∀ (v1 : Int32) (v2 : Int32) (v3 : Int32) (v4 : Int32) (σ : SS), K9 v1 v2 v3 v4 σ = some (r, σ') → WM d X Y b mi_X8_findSide 9 [some (vR 25 0), some (vI v1), some (vI v2), some (vI v3), some (vI v4), none] [] σ (none, σ')) {σ : SS} (h : f_X8_findSide_179 K9 v1 v2 v3 v4 σ = some (r, σ')) : WM d X Y b mi_X8_findSide 179 [some (vR 25 0), some (vI v1), some (vI v2), some (vI v3), some (vI v4), none] [] σ (none, σ') := by
  rw [f_X8_findSide_179] at h
  refine l_iinc (pc' := 182) d_X8_findSide_179 rfl ci_1 rfl rfl rfl h (fun x1 h => ?_)
  refine r_goto (pc' := 9) d_X8_findSide_182 rfl ?_
  exact WM.drop [] rfl (hK9 _ _ _ _ _ h)
def f_X8_findSide_178 (K9 : Int32 → Int32 → Int32 → Int32 → SS → Option (Unit × SS)) (v1 : Int32) (v2 : Int32) (v4 : Int32) (u0 : Int32) (σ : SS) : Option (Unit × SS) := f_X8_findSide_179 K9 v1 v2 u0 v4 σ
set_option maxRecDepth 20000 in
theorem t_X8_findSide_178 {d : Nat} {X : MX} {Y : MY} {b : Nat × Nat} {r : Unit} {σ' : SS} {K9 : Int32 → Int32 → Int32 → Int32 → SS → Option (Unit × SS)} {v1 : Int32} {v2 : Int32} {v4 : Int32} {u0 : Int32} (hK9 : ∀ (v1 : Int32) (v2 : Int32) (v3 : Int32) (v4 : Int32) (σ : SS), K9 v1 v2 v3 v4 σ = some (r, σ') → WM d X Y b mi_X8_findSide 9 [some (vR 25 0), some (vI v1), some (vI v2), some (vI v3), some (vI v4), none] [] σ (none, σ')) {σ : SS} (h : f_X8_findSide_178 K9 v1 v2 v4 u0 σ = some (r, σ')) : WM d X Y b mi_X8_findSide 178 [some (vR 25 0), some (vI v1), some (vI v2), none, some (vI v4), none] [vI u0] σ (none, σ') := by
  rw [f_X8_findSide_178] at h
  refine r_istore_n (pc' := 179) d_X8_findSide_178 rfl rfl rfl rfl ?_
  exact WM.drop [] rfl (t_X8_findSide_179 hK9 h)
def f_X8_findSide_172 (K9 : Int32 → Int32 → Int32 → Int32 → SS → Option (Unit × SS)) (v1 : Int32) (v2 : Int32) (v4 : Int32) (σ : SS) : Option (Unit × SS) := f_X8_findSide_178 K9 v1 v2 v4 v4 σ
set_option maxRecDepth 20000 in
theorem t_X8_findSide_172 {d : Nat} {X : MX} {Y : MY} {b : Nat × Nat} {r : Unit} {σ' : SS} {K9 : Int32 → Int32 → Int32 → Int32 → SS → Option (Unit × SS)} {v1 : Int32} {v2 : Int32} {v4 : Int32} (hK9 : ∀ (v1 : Int32) (v2 : Int32) (v3 : Int32) (v4 : Int32) (σ : SS), K9 v1 v2 v3 v4 σ = some (r, σ') → WM d X Y b mi_X8_findSide 9 [some (vR 25 0), some (vI v1), some (vI v2), some (vI v3), some (vI v4), none] [] σ (none, σ')) {σ : SS} (h : f_X8_findSide_172 K9 v1 v2 v4 σ = some (r, σ')) : WM d X Y b mi_X8_findSide 172 [some (vR 25 0), some (vI v1), some (vI v2), none, some (vI v4), none] [] σ (none, σ') := by
  rw [f_X8_findSide_172] at h
  refine r_iload (pc' := 174) d_X8_findSide_172 rfl rfl ?_
  refine r_goto (pc' := 178) d_X8_findSide_174 rfl ?_
  exact WM.drop [] rfl (t_X8_findSide_178 hK9 h)
def f_X8_findSide_133 (K9 : Int32 → Int32 → Int32 → Int32 → SS → Option (Unit × SS)) (v1 : Int32) (v3 : Int32) (v4 : Int32) (v5 : Int32) (u0 : Int32) (σ : SS) : Option (Unit × SS) := if v3 = (-4 : Int32) then (f_X8_findSide_172 K9 v1 u0 v4 σ) else (chk (inr v1 8) (chk (inr v3 32) (chk (inr v1 8) (chk (inr v3 32) (if v5 ≤ (((σ.1 40 0 (ix v1)) * (σ.1 56 0 (ix v3))) - ((σ.1 41 0 (ix v1)) * (σ.1 55 0 (ix v3)))) then (f_X8_findSide_178 K9 v1 u0 v4 v3 σ) else (f_X8_findSide_172 K9 v1 u0 v4 σ))))))
set_option maxRecDepth 20000 in
theorem t_X8_findSide_133 {d : Nat} {X : MX} {Y : MY} {b : Nat × Nat} {r : Unit} {σ' : SS} {K9 : Int32 → Int32 → Int32 → Int32 → SS → Option (Unit × SS)} {v1 : Int32} {v3 : Int32} {v4 : Int32} {v5 : Int32} {u0 : Int32} (hK9 : ∀ (v1 : Int32) (v2 : Int32) (v3 : Int32) (v4 : Int32) (σ : SS), K9 v1 v2 v3 v4 σ = some (r, σ') → WM d X Y b mi_X8_findSide 9 [some (vR 25 0), some (vI v1), some (vI v2), some (vI v3), some (vI v4), none] [] σ (none, σ')) {σ : SS} (h : f_X8_findSide_133 K9 v1 v3 v4 v5 u0 σ = some (r, σ')) : WM d X Y b mi_X8_findSide 133 [some (vR 25 0), some (vI v1), none, some (vI v3), some (vI v4), some (vI v5)] [vI u0] σ (none, σ') := by
  rw [f_X8_findSide_133] at h
  refine r_istore_n (pc' := 134) d_X8_findSide_133 rfl rfl rfl rfl ?_
  refine r_iload_n (pc' := 135) d_X8_findSide_134 rfl rfl rfl ?_
  refine r_bipush (pc' := 137) d_X8_findSide_135 cb_m4 rfl ?_
  refine r_icmp_eq (pcT := 172) (pc' := 140) d_X8_findSide_137 rfl rfl h (fun _ h => ?_) (fun _ h => ?_)
  · exact WM.drop [3, 5] rfl (t_X8_findSide_172 hK9 h)
  · refine r_iload (pc' := 142) d_X8_findSide_140 rfl rfl ?_
    refine r_aload_n (pc' := 143) d_X8_findSide_142 rfl rfl rfl ?_
    refine r_get (v := vR 40 _) (pc' := 146) fl_X8_7 d_X8_findSide_143 rfl rfl (fun g => Or.inl ⟨rfl, g.2⟩) rfl ?_
    refine r_iload_n (pc' := 147) d_X8_findSide_146 rfl rfl rfl ?_
    refine r_iaload (pc' := 148) d_X8_findSide_147 rfl (fun _ => rfl) rfl h (fun h => ?_)
    refine r_aload_n (pc' := 149) d_X8_findSide_148 rfl rfl rfl ?_
    refine r_get (v := vR 56 _) (pc' := 152) fl_X8_53 d_X8_findSide_149 rfl rfl (fun g => Or.inl ⟨rfl, g.2⟩) rfl ?_
    refine r_iload_n (pc' := 153) d_X8_findSide_152 rfl rfl rfl ?_
    refine r_iaload (pc' := 154) d_X8_findSide_153 rfl (fun _ => rfl) rfl h (fun h => ?_)
    refine r_imul (pc' := 155) d_X8_findSide_154 rfl ?_
    refine r_aload_n (pc' := 156) d_X8_findSide_155 rfl rfl rfl ?_
    refine r_get (v := vR 41 _) (pc' := 159) fl_X8_13 d_X8_findSide_156 rfl rfl (fun g => Or.inl ⟨rfl, g.2⟩) rfl ?_
    refine r_iload_n (pc' := 160) d_X8_findSide_159 rfl rfl rfl ?_
    refine r_iaload (pc' := 161) d_X8_findSide_160 rfl (fun _ => rfl) rfl h (fun h => ?_)
    refine r_aload_n (pc' := 162) d_X8_findSide_161 rfl rfl rfl ?_
    refine r_get (v := vR 55 _) (pc' := 165) fl_X8_50 d_X8_findSide_162 rfl rfl (fun g => Or.inl ⟨rfl, g.2⟩) rfl ?_
    refine r_iload_n (pc' := 166) d_X8_findSide_165 rfl rfl rfl ?_
    refine r_iaload (pc' := 167) d_X8_findSide_166 rfl (fun _ => rfl) rfl h (fun h => ?_)
    refine r_imul (pc' := 168) d_X8_findSide_167 rfl ?_
    refine r_isub (pc' := 169) d_X8_findSide_168 rfl ?_
    refine r_icmp_le (pcT := 177) (pc' := 172) d_X8_findSide_169 rfl rfl h (fun _ h => ?_) (fun _ h => ?_)
    · refine r_iload_n (pc' := 178) d_X8_findSide_177 rfl rfl rfl ?_
      exact WM.drop [3, 5] rfl (t_X8_findSide_178 hK9 h)
    · exact WM.drop [3, 5] rfl (t_X8_findSide_172 hK9 h)
def f_X8_findSide_127 (K9 : Int32 → Int32 → Int32 → Int32 → SS → Option (Unit × SS)) (v1 : Int32) (v3 : Int32) (v4 : Int32) (v5 : Int32) (σ : SS) : Option (Unit × SS) := f_X8_findSide_133 K9 v1 v3 v4 v5 v4 σ
set_option maxRecDepth 20000 in
theorem t_X8_findSide_127 {d : Nat} {X : MX} {Y : MY} {b : Nat × Nat} {r : Unit} {σ' : SS} {K9 : Int32 → Int32 → Int32 → Int32 → SS → Option (Unit × SS)} {v1 : Int32} {v3 : Int32} {v4 : Int32} {v5 : Int32} (hK9 : ∀ (v1 : Int32) (v2 : Int32) (v3 : Int32) (v4 : Int32) (σ : SS), K9 v1 v2 v3 v4 σ = some (r, σ') → WM d X Y b mi_X8_findSide 9 [some (vR 25 0), some (vI v1), some (vI v2), some (vI v3), some (vI v4), none] [] σ (none, σ')) {σ : SS} (h : f_X8_findSide_127 K9 v1 v3 v4 v5 σ = some (r, σ')) : WM d X Y b mi_X8_findSide 127 [some (vR 25 0), some (vI v1), none, some (vI v3), some (vI v4), some (vI v5)] [] σ (none, σ') := by
  rw [f_X8_findSide_127] at h
  refine r_iload (pc' := 129) d_X8_findSide_127 rfl rfl ?_
  refine r_goto (pc' := 133) d_X8_findSide_129 rfl ?_
  exact WM.drop [] rfl (t_X8_findSide_133 hK9 h)
def f_X8_findSide_9 : Nat → Int32 → Int32 → Int32 → Int32 → SS → Option (Unit × SS)
  | 0, _, _, _, _, _ => none
  | n + 1, v1, v2, v3, v4, σ => if (σ.1 25 0 14) ≤ v4 then (f_X8_findSide_185 v1 v2 v3 σ) else (chk (inr v1 8) (chk (inr v4 32) (chk (inr v1 8) (chk (inr v4 32) (chk (inr v1 8) (if (((σ.1 40 0 (ix v1)) * (σ.1 55 0 (ix v4))) + ((σ.1 41 0 (ix v1)) * (σ.1 56 0 (ix v4)))) = ((2 : Int32) * (σ.1 53 0 (ix v1))) then (chk (inr v1 8) (chk (inr v4 32) (chk (inr v1 8) (chk (inr v4 32) (lt_ (((σ.1 40 0 (ix v1)) * (σ.1 56 0 (ix v4))) - ((σ.1 41 0 (ix v1)) * (σ.1 55 0 (ix v4)))) (fun x1 => if v2 = (-4 : Int32) then (f_X8_findSide_127 (f_X8_findSide_9 n) v1 v3 v4 x1 σ) else (chk (inr v1 8) (chk (inr v2 32) (chk (inr v1 8) (chk (inr v2 32) (if (((σ.1 40 0 (ix v1)) * (σ.1 56 0 (ix v2))) - ((σ.1 41 0 (ix v1)) * (σ.1 55 0 (ix v2)))) ≤ x1 then (f_X8_findSide_133 (f_X8_findSide_9 n) v1 v3 v4 x1 v2 σ) else (f_X8_findSide_127 (f_X8_findSide_9 n) v1 v3 v4 x1 σ)))))))))))) else (f_X8_findSide_179 (f_X8_findSide_9 n) v1 v2 v3 v4 σ)))))))
set_option maxRecDepth 20000 in
theorem t_X8_findSide_9 {d : Nat} {X : MX} {Y : MY} {b : Nat × Nat} {r : Unit} {σ' : SS} : ∀ (n : Nat) (v1 : Int32) (v2 : Int32) (v3 : Int32) (v4 : Int32) (σ : SS), f_X8_findSide_9 n v1 v2 v3 v4 σ = some (r, σ') → WM d X Y b mi_X8_findSide 9 [some (vR 25 0), some (vI v1), some (vI v2), some (vI v3), some (vI v4), none] [] σ (none, σ') := by
  intro n
  induction n with
  | zero => intro _ _ _ _ σ h; cases h
  | succ n ih =>
    intro v1 v2 v3 v4 σ h
    rw [f_X8_findSide_9] at h
    refine r_iload (pc' := 11) d_X8_findSide_9 rfl rfl ?_
    refine r_aload_n (pc' := 12) d_X8_findSide_11 rfl rfl rfl ?_
    refine r_get (v := vI _) (pc' := 15) fl_X8_147 d_X8_findSide_12 rfl rfl (fun _ => trivial) rfl ?_
    refine r_icmp_ge (pcT := 185) (pc' := 18) d_X8_findSide_15 rfl rfl h (fun _ h => ?_) (fun _ h => ?_)
    · exact WM.drop [4] rfl (t_X8_findSide_185 h)
    · refine r_aload_n (pc' := 19) d_X8_findSide_18 rfl rfl rfl ?_
      refine r_get (v := vR 40 _) (pc' := 22) fl_X8_7 d_X8_findSide_19 rfl rfl (fun g => Or.inl ⟨rfl, g.2⟩) rfl ?_
      refine r_iload_n (pc' := 23) d_X8_findSide_22 rfl rfl rfl ?_
      refine r_iaload (pc' := 24) d_X8_findSide_23 rfl (fun _ => rfl) rfl h (fun h => ?_)
      refine r_aload_n (pc' := 25) d_X8_findSide_24 rfl rfl rfl ?_
      refine r_get (v := vR 55 _) (pc' := 28) fl_X8_50 d_X8_findSide_25 rfl rfl (fun g => Or.inl ⟨rfl, g.2⟩) rfl ?_
      refine r_iload (pc' := 30) d_X8_findSide_28 rfl rfl ?_
      refine r_iaload (pc' := 31) d_X8_findSide_30 rfl (fun _ => rfl) rfl h (fun h => ?_)
      refine r_imul (pc' := 32) d_X8_findSide_31 rfl ?_
      refine r_aload_n (pc' := 33) d_X8_findSide_32 rfl rfl rfl ?_
      refine r_get (v := vR 41 _) (pc' := 36) fl_X8_13 d_X8_findSide_33 rfl rfl (fun g => Or.inl ⟨rfl, g.2⟩) rfl ?_
      refine r_iload_n (pc' := 37) d_X8_findSide_36 rfl rfl rfl ?_
      refine r_iaload (pc' := 38) d_X8_findSide_37 rfl (fun _ => rfl) rfl h (fun h => ?_)
      refine r_aload_n (pc' := 39) d_X8_findSide_38 rfl rfl rfl ?_
      refine r_get (v := vR 56 _) (pc' := 42) fl_X8_53 d_X8_findSide_39 rfl rfl (fun g => Or.inl ⟨rfl, g.2⟩) rfl ?_
      refine r_iload (pc' := 44) d_X8_findSide_42 rfl rfl ?_
      refine r_iaload (pc' := 45) d_X8_findSide_44 rfl (fun _ => rfl) rfl h (fun h => ?_)
      refine r_imul (pc' := 46) d_X8_findSide_45 rfl ?_
      refine r_iadd (pc' := 47) d_X8_findSide_46 rfl ?_
      refine r_iconst (pc' := 48) d_X8_findSide_47 ci_2 rfl ?_
      refine r_aload_n (pc' := 49) d_X8_findSide_48 rfl rfl rfl ?_
      refine r_get (v := vR 53 _) (pc' := 52) fl_X8_47 d_X8_findSide_49 rfl rfl (fun g => Or.inl ⟨rfl, g.2⟩) rfl ?_
      refine r_iload_n (pc' := 53) d_X8_findSide_52 rfl rfl rfl ?_
      refine r_iaload (pc' := 54) d_X8_findSide_53 rfl (fun _ => rfl) rfl h (fun h => ?_)
      refine r_imul (pc' := 55) d_X8_findSide_54 rfl ?_
      refine r_icmp_ne (pcT := 179) (pc' := 58) d_X8_findSide_55 rfl rfl h (fun _ h => ?_) (fun _ h => ?_)
      · refine r_aload_n (pc' := 59) d_X8_findSide_58 rfl rfl rfl ?_
        refine r_get (v := vR 40 _) (pc' := 62) fl_X8_7 d_X8_findSide_59 rfl rfl (fun g => Or.inl ⟨rfl, g.2⟩) rfl ?_
        refine r_iload_n (pc' := 63) d_X8_findSide_62 rfl rfl rfl ?_
        refine r_iaload (pc' := 64) d_X8_findSide_63 rfl (fun _ => rfl) rfl h (fun h => ?_)
        refine r_aload_n (pc' := 65) d_X8_findSide_64 rfl rfl rfl ?_
        refine r_get (v := vR 56 _) (pc' := 68) fl_X8_53 d_X8_findSide_65 rfl rfl (fun g => Or.inl ⟨rfl, g.2⟩) rfl ?_
        refine r_iload (pc' := 70) d_X8_findSide_68 rfl rfl ?_
        refine r_iaload (pc' := 71) d_X8_findSide_70 rfl (fun _ => rfl) rfl h (fun h => ?_)
        refine r_imul (pc' := 72) d_X8_findSide_71 rfl ?_
        refine r_aload_n (pc' := 73) d_X8_findSide_72 rfl rfl rfl ?_
        refine r_get (v := vR 41 _) (pc' := 76) fl_X8_13 d_X8_findSide_73 rfl rfl (fun g => Or.inl ⟨rfl, g.2⟩) rfl ?_
        refine r_iload_n (pc' := 77) d_X8_findSide_76 rfl rfl rfl ?_
        refine r_iaload (pc' := 78) d_X8_findSide_77 rfl (fun _ => rfl) rfl h (fun h => ?_)
        refine r_aload_n (pc' := 79) d_X8_findSide_78 rfl rfl rfl ?_
        refine r_get (v := vR 55 _) (pc' := 82) fl_X8_50 d_X8_findSide_79 rfl rfl (fun g => Or.inl ⟨rfl, g.2⟩) rfl ?_
        refine r_iload (pc' := 84) d_X8_findSide_82 rfl rfl ?_
        refine r_iaload (pc' := 85) d_X8_findSide_84 rfl (fun _ => rfl) rfl h (fun h => ?_)
        refine r_imul (pc' := 86) d_X8_findSide_85 rfl ?_
        refine r_isub (pc' := 87) d_X8_findSide_86 rfl ?_
        refine l_istore (pc' := 89) d_X8_findSide_87 rfl rfl rfl h (fun x1 h => ?_)
        refine r_iload_n (pc' := 90) d_X8_findSide_89 rfl rfl rfl ?_
        refine r_bipush (pc' := 92) d_X8_findSide_90 cb_m4 rfl ?_
        refine r_icmp_eq (pcT := 127) (pc' := 95) d_X8_findSide_92 rfl rfl h (fun _ h => ?_) (fun _ h => ?_)
        · exact WM.drop [2] rfl (t_X8_findSide_127 ih h)
        · refine r_iload (pc' := 97) d_X8_findSide_95 rfl rfl ?_
          refine r_aload_n (pc' := 98) d_X8_findSide_97 rfl rfl rfl ?_
          refine r_get (v := vR 40 _) (pc' := 101) fl_X8_7 d_X8_findSide_98 rfl rfl (fun g => Or.inl ⟨rfl, g.2⟩) rfl ?_
          refine r_iload_n (pc' := 102) d_X8_findSide_101 rfl rfl rfl ?_
          refine r_iaload (pc' := 103) d_X8_findSide_102 rfl (fun _ => rfl) rfl h (fun h => ?_)
          refine r_aload_n (pc' := 104) d_X8_findSide_103 rfl rfl rfl ?_
          refine r_get (v := vR 56 _) (pc' := 107) fl_X8_53 d_X8_findSide_104 rfl rfl (fun g => Or.inl ⟨rfl, g.2⟩) rfl ?_
          refine r_iload_n (pc' := 108) d_X8_findSide_107 rfl rfl rfl ?_
          refine r_iaload (pc' := 109) d_X8_findSide_108 rfl (fun _ => rfl) rfl h (fun h => ?_)
          refine r_imul (pc' := 110) d_X8_findSide_109 rfl ?_
          refine r_aload_n (pc' := 111) d_X8_findSide_110 rfl rfl rfl ?_
          refine r_get (v := vR 41 _) (pc' := 114) fl_X8_13 d_X8_findSide_111 rfl rfl (fun g => Or.inl ⟨rfl, g.2⟩) rfl ?_
          refine r_iload_n (pc' := 115) d_X8_findSide_114 rfl rfl rfl ?_
          refine r_iaload (pc' := 116) d_X8_findSide_115 rfl (fun _ => rfl) rfl h (fun h => ?_)
          refine r_aload_n (pc' := 117) d_X8_findSide_116 rfl rfl rfl ?_
          refine r_get (v := vR 55 _) (pc' := 120) fl_X8_50 d_X8_findSide_117 rfl rfl (fun g => Or.inl ⟨rfl, g.2⟩) rfl ?_
          refine r_iload_n (pc' := 121) d_X8_findSide_120 rfl rfl rfl ?_
          refine r_iaload (pc' := 122) d_X8_findSide_121 rfl (fun _ => rfl) rfl h (fun h => ?_)
          refine r_imul (pc' := 123) d_X8_findSide_122 rfl ?_
          refine r_isub (pc' := 124) d_X8_findSide_123 rfl ?_
          refine r_icmp_ge (pcT := 132) (pc' := 127) d_X8_findSide_124 rfl rfl h (fun _ h => ?_) (fun _ h => ?_)
          · refine r_iload_n (pc' := 133) d_X8_findSide_132 rfl rfl rfl ?_
            exact WM.drop [2] rfl (t_X8_findSide_133 ih h)
          · exact WM.drop [2] rfl (t_X8_findSide_127 ih h)
      · exact WM.drop [] rfl (t_X8_findSide_179 ih h)
def f_X8_findSide (v1 : Int32) (σ : SS) : Option (Unit × SS) := f_X8_findSide_9 FU v1 (-4 : Int32) (-4 : Int32) (0 : Int32) σ
set_option maxRecDepth 20000 in
theorem t_X8_findSide {d : Nat} {b : Nat × Nat} {v1 : Int32} {σ : SS} {r : Unit} {σ' : SS} (h : f_X8_findSide v1 σ = some (r, σ')) : MM d b mi_X8_findSide [vR 25 0, vI v1] σ (none, σ') := by
  refine MM.of (lv := [some (vR 25 0), some (vI v1), none, none, none, none]) (by decide +kernel) rfl rfl (fun X Y => ?_)
  rw [f_X8_findSide] at h
  refine r_bipush (pc' := 2) d_X8_findSide_0 cb_m4 rfl ?_
  refine r_istore_n (pc' := 3) d_X8_findSide_2 rfl rfl rfl rfl ?_
  refine r_bipush (pc' := 5) d_X8_findSide_3 cb_m4 rfl ?_
  refine r_istore_n (pc' := 6) d_X8_findSide_5 rfl rfl rfl rfl ?_
  refine r_iconst (pc' := 7) d_X8_findSide_6 ci_0 rfl ?_
  refine r_istore (pc' := 9) d_X8_findSide_7 rfl rfl rfl ?_
  exact WM.drop [] rfl (t_X8_findSide_9 _ _ _ _ _ _ h)
/-! OctagonYardModel.turnRows()V -/
def mi_X8_turnRows : MI := (yX8_turnRows, cX8_turnRows, 7, none)
theorem d_X8_turnRows_0 : decode mi_X8_turnRows.2.1 0 = .ok (.aload_n 0, 1) := by decide +kernel
theorem d_X8_turnRows_1 : decode mi_X8_turnRows.2.1 1 = .ok (.getfield 56, 3) := by decide +kernel
theorem d_X8_turnRows_4 : decode mi_X8_turnRows.2.1 4 = .ok (.iconst 0, 1) := by decide +kernel
theorem d_X8_turnRows_5 : decode mi_X8_turnRows.2.1 5 = .ok (.iaload, 1) := by decide +kernel
theorem d_X8_turnRows_6 : decode mi_X8_turnRows.2.1 6 = .ok (.istore_n 1, 1) := by decide +kernel
theorem d_X8_turnRows_7 : decode mi_X8_turnRows.2.1 7 = .ok (.aload_n 0, 1) := by decide +kernel
theorem d_X8_turnRows_8 : decode mi_X8_turnRows.2.1 8 = .ok (.getfield 59, 3) := by decide +kernel
theorem d_X8_turnRows_11 : decode mi_X8_turnRows.2.1 11 = .ok (.iconst 0, 1) := by decide +kernel
theorem d_X8_turnRows_12 : decode mi_X8_turnRows.2.1 12 = .ok (.iaload, 1) := by decide +kernel
theorem d_X8_turnRows_13 : decode mi_X8_turnRows.2.1 13 = .ok (.istore_n 2, 1) := by decide +kernel
theorem d_X8_turnRows_14 : decode mi_X8_turnRows.2.1 14 = .ok (.aload_n 0, 1) := by decide +kernel
theorem d_X8_turnRows_15 : decode mi_X8_turnRows.2.1 15 = .ok (.getfield 62, 3) := by decide +kernel
theorem d_X8_turnRows_18 : decode mi_X8_turnRows.2.1 18 = .ok (.iconst 0, 1) := by decide +kernel
theorem d_X8_turnRows_19 : decode mi_X8_turnRows.2.1 19 = .ok (.iaload, 1) := by decide +kernel
theorem d_X8_turnRows_20 : decode mi_X8_turnRows.2.1 20 = .ok (.istore_n 3, 1) := by decide +kernel
theorem d_X8_turnRows_21 : decode mi_X8_turnRows.2.1 21 = .ok (.aload_n 0, 1) := by decide +kernel
theorem d_X8_turnRows_22 : decode mi_X8_turnRows.2.1 22 = .ok (.getfield 65, 3) := by decide +kernel
theorem d_X8_turnRows_25 : decode mi_X8_turnRows.2.1 25 = .ok (.iconst 0, 1) := by decide +kernel
theorem d_X8_turnRows_26 : decode mi_X8_turnRows.2.1 26 = .ok (.iaload, 1) := by decide +kernel
theorem d_X8_turnRows_27 : decode mi_X8_turnRows.2.1 27 = .ok (.istore 4, 2) := by decide +kernel
theorem d_X8_turnRows_29 : decode mi_X8_turnRows.2.1 29 = .ok (.aload_n 0, 1) := by decide +kernel
theorem d_X8_turnRows_30 : decode mi_X8_turnRows.2.1 30 = .ok (.getfield 68, 3) := by decide +kernel
theorem d_X8_turnRows_33 : decode mi_X8_turnRows.2.1 33 = .ok (.iconst 0, 1) := by decide +kernel
theorem d_X8_turnRows_34 : decode mi_X8_turnRows.2.1 34 = .ok (.iaload, 1) := by decide +kernel
theorem d_X8_turnRows_35 : decode mi_X8_turnRows.2.1 35 = .ok (.istore 5, 2) := by decide +kernel
theorem d_X8_turnRows_37 : decode mi_X8_turnRows.2.1 37 = .ok (.iconst 1, 1) := by decide +kernel
theorem d_X8_turnRows_38 : decode mi_X8_turnRows.2.1 38 = .ok (.istore 6, 2) := by decide +kernel
theorem d_X8_turnRows_40 : decode mi_X8_turnRows.2.1 40 = .ok (.iload 6, 2) := by decide +kernel
theorem d_X8_turnRows_42 : decode mi_X8_turnRows.2.1 42 = .ok (.aload_n 0, 1) := by decide +kernel
theorem d_X8_turnRows_43 : decode mi_X8_turnRows.2.1 43 = .ok (.getfield 157, 3) := by decide +kernel
theorem d_X8_turnRows_46 : decode mi_X8_turnRows.2.1 46 = .ok (.if_icmp .ge 89, 3) := by decide +kernel
theorem d_X8_turnRows_49 : decode mi_X8_turnRows.2.1 49 = .ok (.aload_n 0, 1) := by decide +kernel
theorem d_X8_turnRows_50 : decode mi_X8_turnRows.2.1 50 = .ok (.getfield 56, 3) := by decide +kernel
theorem d_X8_turnRows_53 : decode mi_X8_turnRows.2.1 53 = .ok (.iload 6, 2) := by decide +kernel
theorem d_X8_turnRows_55 : decode mi_X8_turnRows.2.1 55 = .ok (.iconst 1, 1) := by decide +kernel
theorem d_X8_turnRows_56 : decode mi_X8_turnRows.2.1 56 = .ok (.isub, 1) := by decide +kernel
theorem d_X8_turnRows_57 : decode mi_X8_turnRows.2.1 57 = .ok (.aload_n 0, 1) := by decide +kernel
theorem d_X8_turnRows_58 : decode mi_X8_turnRows.2.1 58 = .ok (.getfield 56, 3) := by decide +kernel
theorem d_X8_turnRows_61 : decode mi_X8_turnRows.2.1 61 = .ok (.iload 6, 2) := by decide +kernel
theorem d_X8_turnRows_63 : decode mi_X8_turnRows.2.1 63 = .ok (.iaload, 1) := by decide +kernel
theorem d_X8_turnRows_64 : decode mi_X8_turnRows.2.1 64 = .ok (.iastore, 1) := by decide +kernel
theorem d_X8_turnRows_65 : decode mi_X8_turnRows.2.1 65 = .ok (.aload_n 0, 1) := by decide +kernel
theorem d_X8_turnRows_66 : decode mi_X8_turnRows.2.1 66 = .ok (.getfield 59, 3) := by decide +kernel
theorem d_X8_turnRows_69 : decode mi_X8_turnRows.2.1 69 = .ok (.iload 6, 2) := by decide +kernel
theorem d_X8_turnRows_71 : decode mi_X8_turnRows.2.1 71 = .ok (.iconst 1, 1) := by decide +kernel
theorem d_X8_turnRows_72 : decode mi_X8_turnRows.2.1 72 = .ok (.isub, 1) := by decide +kernel
theorem d_X8_turnRows_73 : decode mi_X8_turnRows.2.1 73 = .ok (.aload_n 0, 1) := by decide +kernel
theorem d_X8_turnRows_74 : decode mi_X8_turnRows.2.1 74 = .ok (.getfield 59, 3) := by decide +kernel
theorem d_X8_turnRows_77 : decode mi_X8_turnRows.2.1 77 = .ok (.iload 6, 2) := by decide +kernel
theorem d_X8_turnRows_79 : decode mi_X8_turnRows.2.1 79 = .ok (.iaload, 1) := by decide +kernel
theorem d_X8_turnRows_80 : decode mi_X8_turnRows.2.1 80 = .ok (.iastore, 1) := by decide +kernel
theorem d_X8_turnRows_81 : decode mi_X8_turnRows.2.1 81 = .ok (.aload_n 0, 1) := by decide +kernel
theorem d_X8_turnRows_82 : decode mi_X8_turnRows.2.1 82 = .ok (.getfield 62, 3) := by decide +kernel
theorem d_X8_turnRows_85 : decode mi_X8_turnRows.2.1 85 = .ok (.iload 6, 2) := by decide +kernel
theorem d_X8_turnRows_87 : decode mi_X8_turnRows.2.1 87 = .ok (.iconst 1, 1) := by decide +kernel
theorem d_X8_turnRows_88 : decode mi_X8_turnRows.2.1 88 = .ok (.isub, 1) := by decide +kernel
theorem d_X8_turnRows_89 : decode mi_X8_turnRows.2.1 89 = .ok (.aload_n 0, 1) := by decide +kernel
theorem d_X8_turnRows_90 : decode mi_X8_turnRows.2.1 90 = .ok (.getfield 62, 3) := by decide +kernel
theorem d_X8_turnRows_93 : decode mi_X8_turnRows.2.1 93 = .ok (.iload 6, 2) := by decide +kernel
theorem d_X8_turnRows_95 : decode mi_X8_turnRows.2.1 95 = .ok (.iaload, 1) := by decide +kernel
theorem d_X8_turnRows_96 : decode mi_X8_turnRows.2.1 96 = .ok (.iastore, 1) := by decide +kernel
theorem d_X8_turnRows_97 : decode mi_X8_turnRows.2.1 97 = .ok (.aload_n 0, 1) := by decide +kernel
theorem d_X8_turnRows_98 : decode mi_X8_turnRows.2.1 98 = .ok (.getfield 65, 3) := by decide +kernel
theorem d_X8_turnRows_101 : decode mi_X8_turnRows.2.1 101 = .ok (.iload 6, 2) := by decide +kernel
theorem d_X8_turnRows_103 : decode mi_X8_turnRows.2.1 103 = .ok (.iconst 1, 1) := by decide +kernel
theorem d_X8_turnRows_104 : decode mi_X8_turnRows.2.1 104 = .ok (.isub, 1) := by decide +kernel
theorem d_X8_turnRows_105 : decode mi_X8_turnRows.2.1 105 = .ok (.aload_n 0, 1) := by decide +kernel
theorem d_X8_turnRows_106 : decode mi_X8_turnRows.2.1 106 = .ok (.getfield 65, 3) := by decide +kernel
theorem d_X8_turnRows_109 : decode mi_X8_turnRows.2.1 109 = .ok (.iload 6, 2) := by decide +kernel
theorem d_X8_turnRows_111 : decode mi_X8_turnRows.2.1 111 = .ok (.iaload, 1) := by decide +kernel
theorem d_X8_turnRows_112 : decode mi_X8_turnRows.2.1 112 = .ok (.iastore, 1) := by decide +kernel
theorem d_X8_turnRows_113 : decode mi_X8_turnRows.2.1 113 = .ok (.aload_n 0, 1) := by decide +kernel
theorem d_X8_turnRows_114 : decode mi_X8_turnRows.2.1 114 = .ok (.getfield 68, 3) := by decide +kernel
theorem d_X8_turnRows_117 : decode mi_X8_turnRows.2.1 117 = .ok (.iload 6, 2) := by decide +kernel
theorem d_X8_turnRows_119 : decode mi_X8_turnRows.2.1 119 = .ok (.iconst 1, 1) := by decide +kernel
theorem d_X8_turnRows_120 : decode mi_X8_turnRows.2.1 120 = .ok (.isub, 1) := by decide +kernel
theorem d_X8_turnRows_121 : decode mi_X8_turnRows.2.1 121 = .ok (.aload_n 0, 1) := by decide +kernel
theorem d_X8_turnRows_122 : decode mi_X8_turnRows.2.1 122 = .ok (.getfield 68, 3) := by decide +kernel
theorem d_X8_turnRows_125 : decode mi_X8_turnRows.2.1 125 = .ok (.iload 6, 2) := by decide +kernel
theorem d_X8_turnRows_127 : decode mi_X8_turnRows.2.1 127 = .ok (.iaload, 1) := by decide +kernel
theorem d_X8_turnRows_128 : decode mi_X8_turnRows.2.1 128 = .ok (.iastore, 1) := by decide +kernel
theorem d_X8_turnRows_129 : decode mi_X8_turnRows.2.1 129 = .ok (.iinc 6 1, 3) := by decide +kernel
theorem d_X8_turnRows_132 : decode mi_X8_turnRows.2.1 132 = .ok (.goto (-92), 3) := by decide +kernel
theorem d_X8_turnRows_135 : decode mi_X8_turnRows.2.1 135 = .ok (.aload_n 0, 1) := by decide +kernel
theorem d_X8_turnRows_136 : decode mi_X8_turnRows.2.1 136 = .ok (.getfield 56, 3) := by decide +kernel
theorem d_X8_turnRows_139 : decode mi_X8_turnRows.2.1 139 = .ok (.aload_n 0, 1) := by decide +kernel
theorem d_X8_turnRows_140 : decode mi_X8_turnRows.2.1 140 = .ok (.getfield 157, 3) := by decide +kernel
theorem d_X8_turnRows_143 : decode mi_X8_turnRows.2.1 143 = .ok (.iconst 1, 1) := by decide +kernel
theorem d_X8_turnRows_144 : decode mi_X8_turnRows.2.1 144 = .ok (.isub, 1) := by decide +kernel
theorem d_X8_turnRows_145 : decode mi_X8_turnRows.2.1 145 = .ok (.iload_n 1, 1) := by decide +kernel
theorem d_X8_turnRows_146 : decode mi_X8_turnRows.2.1 146 = .ok (.iastore, 1) := by decide +kernel
theorem d_X8_turnRows_147 : decode mi_X8_turnRows.2.1 147 = .ok (.aload_n 0, 1) := by decide +kernel
theorem d_X8_turnRows_148 : decode mi_X8_turnRows.2.1 148 = .ok (.getfield 59, 3) := by decide +kernel
theorem d_X8_turnRows_151 : decode mi_X8_turnRows.2.1 151 = .ok (.aload_n 0, 1) := by decide +kernel
theorem d_X8_turnRows_152 : decode mi_X8_turnRows.2.1 152 = .ok (.getfield 157, 3) := by decide +kernel
theorem d_X8_turnRows_155 : decode mi_X8_turnRows.2.1 155 = .ok (.iconst 1, 1) := by decide +kernel
theorem d_X8_turnRows_156 : decode mi_X8_turnRows.2.1 156 = .ok (.isub, 1) := by decide +kernel
theorem d_X8_turnRows_157 : decode mi_X8_turnRows.2.1 157 = .ok (.iload_n 2, 1) := by decide +kernel
theorem d_X8_turnRows_158 : decode mi_X8_turnRows.2.1 158 = .ok (.iastore, 1) := by decide +kernel
theorem d_X8_turnRows_159 : decode mi_X8_turnRows.2.1 159 = .ok (.aload_n 0, 1) := by decide +kernel
theorem d_X8_turnRows_160 : decode mi_X8_turnRows.2.1 160 = .ok (.getfield 62, 3) := by decide +kernel
theorem d_X8_turnRows_163 : decode mi_X8_turnRows.2.1 163 = .ok (.aload_n 0, 1) := by decide +kernel
theorem d_X8_turnRows_164 : decode mi_X8_turnRows.2.1 164 = .ok (.getfield 157, 3) := by decide +kernel
theorem d_X8_turnRows_167 : decode mi_X8_turnRows.2.1 167 = .ok (.iconst 1, 1) := by decide +kernel
theorem d_X8_turnRows_168 : decode mi_X8_turnRows.2.1 168 = .ok (.isub, 1) := by decide +kernel
theorem d_X8_turnRows_169 : decode mi_X8_turnRows.2.1 169 = .ok (.iload_n 3, 1) := by decide +kernel
theorem d_X8_turnRows_170 : decode mi_X8_turnRows.2.1 170 = .ok (.iastore, 1) := by decide +kernel
theorem d_X8_turnRows_171 : decode mi_X8_turnRows.2.1 171 = .ok (.aload_n 0, 1) := by decide +kernel
theorem d_X8_turnRows_172 : decode mi_X8_turnRows.2.1 172 = .ok (.getfield 65, 3) := by decide +kernel
theorem d_X8_turnRows_175 : decode mi_X8_turnRows.2.1 175 = .ok (.aload_n 0, 1) := by decide +kernel
theorem d_X8_turnRows_176 : decode mi_X8_turnRows.2.1 176 = .ok (.getfield 157, 3) := by decide +kernel
theorem d_X8_turnRows_179 : decode mi_X8_turnRows.2.1 179 = .ok (.iconst 1, 1) := by decide +kernel
theorem d_X8_turnRows_180 : decode mi_X8_turnRows.2.1 180 = .ok (.isub, 1) := by decide +kernel
theorem d_X8_turnRows_181 : decode mi_X8_turnRows.2.1 181 = .ok (.iload 4, 2) := by decide +kernel
theorem d_X8_turnRows_183 : decode mi_X8_turnRows.2.1 183 = .ok (.iastore, 1) := by decide +kernel
theorem d_X8_turnRows_184 : decode mi_X8_turnRows.2.1 184 = .ok (.aload_n 0, 1) := by decide +kernel
theorem d_X8_turnRows_185 : decode mi_X8_turnRows.2.1 185 = .ok (.getfield 68, 3) := by decide +kernel
theorem d_X8_turnRows_188 : decode mi_X8_turnRows.2.1 188 = .ok (.aload_n 0, 1) := by decide +kernel
theorem d_X8_turnRows_189 : decode mi_X8_turnRows.2.1 189 = .ok (.getfield 157, 3) := by decide +kernel
theorem d_X8_turnRows_192 : decode mi_X8_turnRows.2.1 192 = .ok (.iconst 1, 1) := by decide +kernel
theorem d_X8_turnRows_193 : decode mi_X8_turnRows.2.1 193 = .ok (.isub, 1) := by decide +kernel
theorem d_X8_turnRows_194 : decode mi_X8_turnRows.2.1 194 = .ok (.iload 5, 2) := by decide +kernel
theorem d_X8_turnRows_196 : decode mi_X8_turnRows.2.1 196 = .ok (.iastore, 1) := by decide +kernel
theorem d_X8_turnRows_197 : decode mi_X8_turnRows.2.1 197 = .ok (.return_, 1) := by decide +kernel
def f_X8_turnRows_135 (v1 : Int32) (v2 : Int32) (v3 : Int32) (v4 : Int32) (v5 : Int32) (σ : SS) : Option (Unit × SS) := chk (inr ((σ.1 25 0 17) - (1 : Int32)) 8) (lt_ (up σ 58 0 (ix ((σ.1 25 0 17) - (1 : Int32))) v1) (fun s1 => chk (inr ((s1.1 25 0 17) - (1 : Int32)) 8) (lt_ (up s1 59 0 (ix ((s1.1 25 0 17) - (1 : Int32))) v2) (fun s2 => chk (inr ((s2.1 25 0 17) - (1 : Int32)) 8) (lt_ (up s2 60 0 (ix ((s2.1 25 0 17) - (1 : Int32))) v3) (fun s3 => chk (inr ((s3.1 25 0 17) - (1 : Int32)) 8) (lt_ (up s3 61 0 (ix ((s3.1 25 0 17) - (1 : Int32))) v4) (fun s4 => chk (inr ((s4.1 25 0 17) - (1 : Int32)) 8) (lt_ (up s4 62 0 (ix ((s4.1 25 0 17) - (1 : Int32))) v5) (fun s5 => some ((), s5)))))))))))
set_option maxRecDepth 20000 in
theorem t_X8_turnRows_135 {d : Nat} {X : MX} {Y : MY} {b : Nat × Nat} {r : Unit} {σ' : SS} {v1 : Int32} {v2 : Int32} {v3 : Int32} {v4 : Int32} {v5 : Int32} {σ : SS} (h : f_X8_turnRows_135 v1 v2 v3 v4 v5 σ = some (r, σ')) : WM d X Y b mi_X8_turnRows 135 [some (vR 25 0), some (vI v1), some (vI v2), some (vI v3), some (vI v4), some (vI v5), none] [] σ (none, σ') := by
  rw [f_X8_turnRows_135] at h
  refine r_aload_n (pc' := 136) d_X8_turnRows_135 rfl rfl rfl ?_
  refine r_get (v := vR 58 _) (pc' := 139) fl_X8_56 d_X8_turnRows_136 rfl rfl (fun g => Or.inl ⟨rfl, g.2⟩) rfl ?_
  refine r_aload_n (pc' := 140) d_X8_turnRows_139 rfl rfl rfl ?_
  refine r_get (v := vI _) (pc' := 143) fl_X8_157 d_X8_turnRows_140 rfl rfl (fun _ => trivial) rfl ?_
  refine r_iconst (pc' := 144) d_X8_turnRows_143 ci_1 rfl ?_
  refine r_isub (pc' := 145) d_X8_turnRows_144 rfl ?_
  refine r_iload_n (pc' := 146) d_X8_turnRows_145 rfl rfl rfl ?_
  refine l_iastore (pc' := 147) d_X8_turnRows_146 rfl (fun _ => rfl) (by decide) (by decide) (fun _ => rfl) rfl h (fun s1 h => ?_)
  refine r_aload_n (pc' := 148) d_X8_turnRows_147 rfl rfl rfl ?_
  refine r_get (v := vR 59 _) (pc' := 151) fl_X8_59 d_X8_turnRows_148 rfl rfl (fun g => Or.inl ⟨rfl, g.2⟩) rfl ?_
  refine r_aload_n (pc' := 152) d_X8_turnRows_151 rfl rfl rfl ?_
  refine r_get (v := vI _) (pc' := 155) fl_X8_157 d_X8_turnRows_152 rfl rfl (fun _ => trivial) rfl ?_
  refine r_iconst (pc' := 156) d_X8_turnRows_155 ci_1 rfl ?_
  refine r_isub (pc' := 157) d_X8_turnRows_156 rfl ?_
  refine r_iload_n (pc' := 158) d_X8_turnRows_157 rfl rfl rfl ?_
  refine l_iastore (pc' := 159) d_X8_turnRows_158 rfl (fun _ => rfl) (by decide) (by decide) (fun _ => rfl) rfl h (fun s2 h => ?_)
  refine r_aload_n (pc' := 160) d_X8_turnRows_159 rfl rfl rfl ?_
  refine r_get (v := vR 60 _) (pc' := 163) fl_X8_62 d_X8_turnRows_160 rfl rfl (fun g => Or.inl ⟨rfl, g.2⟩) rfl ?_
  refine r_aload_n (pc' := 164) d_X8_turnRows_163 rfl rfl rfl ?_
  refine r_get (v := vI _) (pc' := 167) fl_X8_157 d_X8_turnRows_164 rfl rfl (fun _ => trivial) rfl ?_
  refine r_iconst (pc' := 168) d_X8_turnRows_167 ci_1 rfl ?_
  refine r_isub (pc' := 169) d_X8_turnRows_168 rfl ?_
  refine r_iload_n (pc' := 170) d_X8_turnRows_169 rfl rfl rfl ?_
  refine l_iastore (pc' := 171) d_X8_turnRows_170 rfl (fun _ => rfl) (by decide) (by decide) (fun _ => rfl) rfl h (fun s3 h => ?_)
  refine r_aload_n (pc' := 172) d_X8_turnRows_171 rfl rfl rfl ?_
  refine r_get (v := vR 61 _) (pc' := 175) fl_X8_65 d_X8_turnRows_172 rfl rfl (fun g => Or.inl ⟨rfl, g.2⟩) rfl ?_
  refine r_aload_n (pc' := 176) d_X8_turnRows_175 rfl rfl rfl ?_
  refine r_get (v := vI _) (pc' := 179) fl_X8_157 d_X8_turnRows_176 rfl rfl (fun _ => trivial) rfl ?_
  refine r_iconst (pc' := 180) d_X8_turnRows_179 ci_1 rfl ?_
  refine r_isub (pc' := 181) d_X8_turnRows_180 rfl ?_
  refine r_iload (pc' := 183) d_X8_turnRows_181 rfl rfl ?_
  refine l_iastore (pc' := 184) d_X8_turnRows_183 rfl (fun _ => rfl) (by decide) (by decide) (fun _ => rfl) rfl h (fun s4 h => ?_)
  refine r_aload_n (pc' := 185) d_X8_turnRows_184 rfl rfl rfl ?_
  refine r_get (v := vR 62 _) (pc' := 188) fl_X8_68 d_X8_turnRows_185 rfl rfl (fun g => Or.inl ⟨rfl, g.2⟩) rfl ?_
  refine r_aload_n (pc' := 189) d_X8_turnRows_188 rfl rfl rfl ?_
  refine r_get (v := vI _) (pc' := 192) fl_X8_157 d_X8_turnRows_189 rfl rfl (fun _ => trivial) rfl ?_
  refine r_iconst (pc' := 193) d_X8_turnRows_192 ci_1 rfl ?_
  refine r_isub (pc' := 194) d_X8_turnRows_193 rfl ?_
  refine r_iload (pc' := 196) d_X8_turnRows_194 rfl rfl ?_
  refine l_iastore (pc' := 197) d_X8_turnRows_196 rfl (fun _ => rfl) (by decide) (by decide) (fun _ => rfl) rfl h (fun s5 h => ?_)
  exact r_vret d_X8_turnRows_197 rfl h
def f_X8_turnRows_40 : Nat → Int32 → Int32 → Int32 → Int32 → Int32 → Int32 → SS → Option (Unit × SS)
  | 0, _, _, _, _, _, _, _ => none
  | n + 1, v1, v2, v3, v4, v5, v6, σ => if (σ.1 25 0 17) ≤ v6 then (f_X8_turnRows_135 v1 v2 v3 v4 v5 σ) else (chk (inr v6 8) (chk (inr (v6 - (1 : Int32)) 8) (lt_ (up σ 58 0 (ix (v6 - (1 : Int32))) (σ.1 58 0 (ix v6))) (fun s1 => chk (inr v6 8) (chk (inr (v6 - (1 : Int32)) 8) (lt_ (up s1 59 0 (ix (v6 - (1 : Int32))) (s1.1 59 0 (ix v6))) (fun s2 => chk (inr v6 8) (chk (inr (v6 - (1 : Int32)) 8) (lt_ (up s2 60 0 (ix (v6 - (1 : Int32))) (s2.1 60 0 (ix v6))) (fun s3 => chk (inr v6 8) (chk (inr (v6 - (1 : Int32)) 8) (lt_ (up s3 61 0 (ix (v6 - (1 : Int32))) (s3.1 61 0 (ix v6))) (fun s4 => chk (inr v6 8) (chk (inr (v6 - (1 : Int32)) 8) (lt_ (up s4 62 0 (ix (v6 - (1 : Int32))) (s4.1 62 0 (ix v6))) (fun s5 => lt_ (v6 + (1 : Int32)) (fun x6 => f_X8_turnRows_40 n v1 v2 v3 v4 v5 x6 s5)))))))))))))))))
set_option maxRecDepth 20000 in
theorem t_X8_turnRows_40 {d : Nat} {X : MX} {Y : MY} {b : Nat × Nat} {r : Unit} {σ' : SS} : ∀ (n : Nat) (v1 : Int32) (v2 : Int32) (v3 : Int32) (v4 : Int32) (v5 : Int32) (v6 : Int32) (σ : SS), f_X8_turnRows_40 n v1 v2 v3 v4 v5 v6 σ = some (r, σ') → WM d X Y b mi_X8_turnRows 40 [some (vR 25 0), some (vI v1), some (vI v2), some (vI v3), some (vI v4), some (vI v5), some (vI v6)] [] σ (none, σ') := by
  intro n
  induction n with
  | zero => intro _ _ _ _ _ _ σ h; cases h
  | succ n ih =>
    intro v1 v2 v3 v4 v5 v6 σ h
    rw [f_X8_turnRows_40] at h
    refine r_iload (pc' := 42) d_X8_turnRows_40 rfl rfl ?_
    refine r_aload_n (pc' := 43) d_X8_turnRows_42 rfl rfl rfl ?_
    refine r_get (v := vI _) (pc' := 46) fl_X8_157 d_X8_turnRows_43 rfl rfl (fun _ => trivial) rfl ?_
    refine r_icmp_ge (pcT := 135) (pc' := 49) d_X8_turnRows_46 rfl rfl h (fun _ h => ?_) (fun _ h => ?_)
    · exact WM.drop [6] rfl (t_X8_turnRows_135 h)
    · refine r_aload_n (pc' := 50) d_X8_turnRows_49 rfl rfl rfl ?_
      refine r_get (v := vR 58 _) (pc' := 53) fl_X8_56 d_X8_turnRows_50 rfl rfl (fun g => Or.inl ⟨rfl, g.2⟩) rfl ?_
      refine r_iload (pc' := 55) d_X8_turnRows_53 rfl rfl ?_
      refine r_iconst (pc' := 56) d_X8_turnRows_55 ci_1 rfl ?_
      refine r_isub (pc' := 57) d_X8_turnRows_56 rfl ?_
      refine r_aload_n (pc' := 58) d_X8_turnRows_57 rfl rfl rfl ?_
      refine r_get (v := vR 58 _) (pc' := 61) fl_X8_56 d_X8_turnRows_58 rfl rfl (fun g => Or.inl ⟨rfl, g.2⟩) rfl ?_
      refine r_iload (pc' := 63) d_X8_turnRows_61 rfl rfl ?_
      refine r_iaload (pc' := 64) d_X8_turnRows_63 rfl (fun _ => rfl) rfl h (fun h => ?_)
      refine l_iastore (pc' := 65) d_X8_turnRows_64 rfl (fun _ => rfl) (by decide) (by decide) (fun _ => rfl) rfl h (fun s1 h => ?_)
      refine r_aload_n (pc' := 66) d_X8_turnRows_65 rfl rfl rfl ?_
      refine r_get (v := vR 59 _) (pc' := 69) fl_X8_59 d_X8_turnRows_66 rfl rfl (fun g => Or.inl ⟨rfl, g.2⟩) rfl ?_
      refine r_iload (pc' := 71) d_X8_turnRows_69 rfl rfl ?_
      refine r_iconst (pc' := 72) d_X8_turnRows_71 ci_1 rfl ?_
      refine r_isub (pc' := 73) d_X8_turnRows_72 rfl ?_
      refine r_aload_n (pc' := 74) d_X8_turnRows_73 rfl rfl rfl ?_
      refine r_get (v := vR 59 _) (pc' := 77) fl_X8_59 d_X8_turnRows_74 rfl rfl (fun g => Or.inl ⟨rfl, g.2⟩) rfl ?_
      refine r_iload (pc' := 79) d_X8_turnRows_77 rfl rfl ?_
      refine r_iaload (pc' := 80) d_X8_turnRows_79 rfl (fun _ => rfl) rfl h (fun h => ?_)
      refine l_iastore (pc' := 81) d_X8_turnRows_80 rfl (fun _ => rfl) (by decide) (by decide) (fun _ => rfl) rfl h (fun s2 h => ?_)
      refine r_aload_n (pc' := 82) d_X8_turnRows_81 rfl rfl rfl ?_
      refine r_get (v := vR 60 _) (pc' := 85) fl_X8_62 d_X8_turnRows_82 rfl rfl (fun g => Or.inl ⟨rfl, g.2⟩) rfl ?_
      refine r_iload (pc' := 87) d_X8_turnRows_85 rfl rfl ?_
      refine r_iconst (pc' := 88) d_X8_turnRows_87 ci_1 rfl ?_
      refine r_isub (pc' := 89) d_X8_turnRows_88 rfl ?_
      refine r_aload_n (pc' := 90) d_X8_turnRows_89 rfl rfl rfl ?_
      refine r_get (v := vR 60 _) (pc' := 93) fl_X8_62 d_X8_turnRows_90 rfl rfl (fun g => Or.inl ⟨rfl, g.2⟩) rfl ?_
      refine r_iload (pc' := 95) d_X8_turnRows_93 rfl rfl ?_
      refine r_iaload (pc' := 96) d_X8_turnRows_95 rfl (fun _ => rfl) rfl h (fun h => ?_)
      refine l_iastore (pc' := 97) d_X8_turnRows_96 rfl (fun _ => rfl) (by decide) (by decide) (fun _ => rfl) rfl h (fun s3 h => ?_)
      refine r_aload_n (pc' := 98) d_X8_turnRows_97 rfl rfl rfl ?_
      refine r_get (v := vR 61 _) (pc' := 101) fl_X8_65 d_X8_turnRows_98 rfl rfl (fun g => Or.inl ⟨rfl, g.2⟩) rfl ?_
      refine r_iload (pc' := 103) d_X8_turnRows_101 rfl rfl ?_
      refine r_iconst (pc' := 104) d_X8_turnRows_103 ci_1 rfl ?_
      refine r_isub (pc' := 105) d_X8_turnRows_104 rfl ?_
      refine r_aload_n (pc' := 106) d_X8_turnRows_105 rfl rfl rfl ?_
      refine r_get (v := vR 61 _) (pc' := 109) fl_X8_65 d_X8_turnRows_106 rfl rfl (fun g => Or.inl ⟨rfl, g.2⟩) rfl ?_
      refine r_iload (pc' := 111) d_X8_turnRows_109 rfl rfl ?_
      refine r_iaload (pc' := 112) d_X8_turnRows_111 rfl (fun _ => rfl) rfl h (fun h => ?_)
      refine l_iastore (pc' := 113) d_X8_turnRows_112 rfl (fun _ => rfl) (by decide) (by decide) (fun _ => rfl) rfl h (fun s4 h => ?_)
      refine r_aload_n (pc' := 114) d_X8_turnRows_113 rfl rfl rfl ?_
      refine r_get (v := vR 62 _) (pc' := 117) fl_X8_68 d_X8_turnRows_114 rfl rfl (fun g => Or.inl ⟨rfl, g.2⟩) rfl ?_
      refine r_iload (pc' := 119) d_X8_turnRows_117 rfl rfl ?_
      refine r_iconst (pc' := 120) d_X8_turnRows_119 ci_1 rfl ?_
      refine r_isub (pc' := 121) d_X8_turnRows_120 rfl ?_
      refine r_aload_n (pc' := 122) d_X8_turnRows_121 rfl rfl rfl ?_
      refine r_get (v := vR 62 _) (pc' := 125) fl_X8_68 d_X8_turnRows_122 rfl rfl (fun g => Or.inl ⟨rfl, g.2⟩) rfl ?_
      refine r_iload (pc' := 127) d_X8_turnRows_125 rfl rfl ?_
      refine r_iaload (pc' := 128) d_X8_turnRows_127 rfl (fun _ => rfl) rfl h (fun h => ?_)
      refine l_iastore (pc' := 129) d_X8_turnRows_128 rfl (fun _ => rfl) (by decide) (by decide) (fun _ => rfl) rfl h (fun s5 h => ?_)
      refine l_iinc (pc' := 132) d_X8_turnRows_129 rfl ci_1 rfl rfl rfl h (fun x6 h => ?_)
      refine r_goto (pc' := 40) d_X8_turnRows_132 rfl ?_
      exact WM.drop [] rfl (ih _ _ _ _ _ _ _ h)
def f_X8_turnRows (σ : SS) : Option (Unit × SS) := chk (inr (0 : Int32) 8) (lt_ (σ.1 58 0 (ix (0 : Int32))) (fun x1 => chk (inr (0 : Int32) 8) (lt_ (σ.1 59 0 (ix (0 : Int32))) (fun x2 => chk (inr (0 : Int32) 8) (lt_ (σ.1 60 0 (ix (0 : Int32))) (fun x3 => chk (inr (0 : Int32) 8) (lt_ (σ.1 61 0 (ix (0 : Int32))) (fun x4 => chk (inr (0 : Int32) 8) (lt_ (σ.1 62 0 (ix (0 : Int32))) (fun x5 => f_X8_turnRows_40 FU x1 x2 x3 x4 x5 (1 : Int32) σ))))))))))
set_option maxRecDepth 20000 in
theorem t_X8_turnRows {d : Nat} {b : Nat × Nat} {σ : SS} {r : Unit} {σ' : SS} (h : f_X8_turnRows σ = some (r, σ')) : MM d b mi_X8_turnRows [vR 25 0] σ (none, σ') := by
  refine MM.of (lv := [some (vR 25 0), none, none, none, none, none, none]) (by decide +kernel) rfl rfl (fun X Y => ?_)
  rw [f_X8_turnRows] at h
  refine r_aload_n (pc' := 1) d_X8_turnRows_0 rfl rfl rfl ?_
  refine r_get (v := vR 58 _) (pc' := 4) fl_X8_56 d_X8_turnRows_1 rfl rfl (fun g => Or.inl ⟨rfl, g.2⟩) rfl ?_
  refine r_iconst (pc' := 5) d_X8_turnRows_4 ci_0 rfl ?_
  refine r_iaload (pc' := 6) d_X8_turnRows_5 rfl (fun _ => rfl) rfl h (fun h => ?_)
  refine l_istore_n (pc' := 7) d_X8_turnRows_6 rfl rfl rfl rfl h (fun x1 h => ?_)
  refine r_aload_n (pc' := 8) d_X8_turnRows_7 rfl rfl rfl ?_
  refine r_get (v := vR 59 _) (pc' := 11) fl_X8_59 d_X8_turnRows_8 rfl rfl (fun g => Or.inl ⟨rfl, g.2⟩) rfl ?_
  refine r_iconst (pc' := 12) d_X8_turnRows_11 ci_0 rfl ?_
  refine r_iaload (pc' := 13) d_X8_turnRows_12 rfl (fun _ => rfl) rfl h (fun h => ?_)
  refine l_istore_n (pc' := 14) d_X8_turnRows_13 rfl rfl rfl rfl h (fun x2 h => ?_)
  refine r_aload_n (pc' := 15) d_X8_turnRows_14 rfl rfl rfl ?_
  refine r_get (v := vR 60 _) (pc' := 18) fl_X8_62 d_X8_turnRows_15 rfl rfl (fun g => Or.inl ⟨rfl, g.2⟩) rfl ?_
  refine r_iconst (pc' := 19) d_X8_turnRows_18 ci_0 rfl ?_
  refine r_iaload (pc' := 20) d_X8_turnRows_19 rfl (fun _ => rfl) rfl h (fun h => ?_)
  refine l_istore_n (pc' := 21) d_X8_turnRows_20 rfl rfl rfl rfl h (fun x3 h => ?_)
  refine r_aload_n (pc' := 22) d_X8_turnRows_21 rfl rfl rfl ?_
  refine r_get (v := vR 61 _) (pc' := 25) fl_X8_65 d_X8_turnRows_22 rfl rfl (fun g => Or.inl ⟨rfl, g.2⟩) rfl ?_
  refine r_iconst (pc' := 26) d_X8_turnRows_25 ci_0 rfl ?_
  refine r_iaload (pc' := 27) d_X8_turnRows_26 rfl (fun _ => rfl) rfl h (fun h => ?_)
  refine l_istore (pc' := 29) d_X8_turnRows_27 rfl rfl rfl h (fun x4 h => ?_)
  refine r_aload_n (pc' := 30) d_X8_turnRows_29 rfl rfl rfl ?_
  refine r_get (v := vR 62 _) (pc' := 33) fl_X8_68 d_X8_turnRows_30 rfl rfl (fun g => Or.inl ⟨rfl, g.2⟩) rfl ?_
  refine r_iconst (pc' := 34) d_X8_turnRows_33 ci_0 rfl ?_
  refine r_iaload (pc' := 35) d_X8_turnRows_34 rfl (fun _ => rfl) rfl h (fun h => ?_)
  refine l_istore (pc' := 37) d_X8_turnRows_35 rfl rfl rfl h (fun x5 h => ?_)
  refine r_iconst (pc' := 38) d_X8_turnRows_37 ci_1 rfl ?_
  refine r_istore (pc' := 40) d_X8_turnRows_38 rfl rfl rfl ?_
  exact WM.drop [] rfl (t_X8_turnRows_40 _ _ _ _ _ _ _ _ h)
/-! OctagonYardModel.findSides()V -/
def mi_X8_findSides : MI := (yX8_findSides, cX8_findSides, 3, none)
theorem d_X8_findSides_0 : decode mi_X8_findSides.2.1 0 = .ok (.aload_n 0, 1) := by decide +kernel
theorem d_X8_findSides_1 : decode mi_X8_findSides.2.1 1 = .ok (.invokevirtual 154, 3) := by decide +kernel
theorem d_X8_findSides_4 : decode mi_X8_findSides.2.1 4 = .ok (.aload_n 0, 1) := by decide +kernel
theorem d_X8_findSides_5 : decode mi_X8_findSides.2.1 5 = .ok (.iconst 0, 1) := by decide +kernel
theorem d_X8_findSides_6 : decode mi_X8_findSides.2.1 6 = .ok (.putfield 157, 3) := by decide +kernel
theorem d_X8_findSides_9 : decode mi_X8_findSides.2.1 9 = .ok (.iconst 0, 1) := by decide +kernel
theorem d_X8_findSides_10 : decode mi_X8_findSides.2.1 10 = .ok (.istore_n 1, 1) := by decide +kernel
theorem d_X8_findSides_11 : decode mi_X8_findSides.2.1 11 = .ok (.iload_n 1, 1) := by decide +kernel
theorem d_X8_findSides_12 : decode mi_X8_findSides.2.1 12 = .ok (.bipush 8, 2) := by decide +kernel
theorem d_X8_findSides_14 : decode mi_X8_findSides.2.1 14 = .ok (.if_icmp .ge 19, 3) := by decide +kernel
theorem d_X8_findSides_17 : decode mi_X8_findSides.2.1 17 = .ok (.aload_n 0, 1) := by decide +kernel
theorem d_X8_findSides_18 : decode mi_X8_findSides.2.1 18 = .ok (.aload_n 0, 1) := by decide +kernel
theorem d_X8_findSides_19 : decode mi_X8_findSides.2.1 19 = .ok (.getfield 16, 3) := by decide +kernel
theorem d_X8_findSides_22 : decode mi_X8_findSides.2.1 22 = .ok (.iload_n 1, 1) := by decide +kernel
theorem d_X8_findSides_23 : decode mi_X8_findSides.2.1 23 = .ok (.iaload, 1) := by decide +kernel
theorem d_X8_findSides_24 : decode mi_X8_findSides.2.1 24 = .ok (.invokevirtual 160, 3) := by decide +kernel
theorem d_X8_findSides_27 : decode mi_X8_findSides.2.1 27 = .ok (.iinc 1 1, 3) := by decide +kernel
theorem d_X8_findSides_30 : decode mi_X8_findSides.2.1 30 = .ok (.goto (-19), 3) := by decide +kernel
theorem d_X8_findSides_33 : decode mi_X8_findSides.2.1 33 = .ok (.iconst 0, 1) := by decide +kernel
theorem d_X8_findSides_34 : decode mi_X8_findSides.2.1 34 = .ok (.istore_n 1, 1) := by decide +kernel
theorem d_X8_findSides_35 : decode mi_X8_findSides.2.1 35 = .ok (.iconst 1, 1) := by decide +kernel
theorem d_X8_findSides_36 : decode mi_X8_findSides.2.1 36 = .ok (.istore_n 2, 1) := by decide +kernel
theorem d_X8_findSides_37 : decode mi_X8_findSides.2.1 37 = .ok (.iload_n 2, 1) := by decide +kernel
theorem d_X8_findSides_38 : decode mi_X8_findSides.2.1 38 = .ok (.aload_n 0, 1) := by decide +kernel
theorem d_X8_findSides_39 : decode mi_X8_findSides.2.1 39 = .ok (.getfield 157, 3) := by decide +kernel
theorem d_X8_findSides_42 : decode mi_X8_findSides.2.1 42 = .ok (.if_icmp .ge 56, 3) := by decide +kernel
theorem d_X8_findSides_45 : decode mi_X8_findSides.2.1 45 = .ok (.aload_n 0, 1) := by decide +kernel
theorem d_X8_findSides_46 : decode mi_X8_findSides.2.1 46 = .ok (.getfield 59, 3) := by decide +kernel
theorem d_X8_findSides_49 : decode mi_X8_findSides.2.1 49 = .ok (.iload_n 2, 1) := by decide +kernel
theorem d_X8_findSides_50 : decode mi_X8_findSides.2.1 50 = .ok (.iaload, 1) := by decide +kernel
theorem d_X8_findSides_51 : decode mi_X8_findSides.2.1 51 = .ok (.aload_n 0, 1) := by decide +kernel
theorem d_X8_findSides_52 : decode mi_X8_findSides.2.1 52 = .ok (.getfield 59, 3) := by decide +kernel
theorem d_X8_findSides_55 : decode mi_X8_findSides.2.1 55 = .ok (.iload_n 1, 1) := by decide +kernel
theorem d_X8_findSides_56 : decode mi_X8_findSides.2.1 56 = .ok (.iaload, 1) := by decide +kernel
theorem d_X8_findSides_57 : decode mi_X8_findSides.2.1 57 = .ok (.if_icmp .lt 33, 3) := by decide +kernel
theorem d_X8_findSides_60 : decode mi_X8_findSides.2.1 60 = .ok (.aload_n 0, 1) := by decide +kernel
theorem d_X8_findSides_61 : decode mi_X8_findSides.2.1 61 = .ok (.getfield 59, 3) := by decide +kernel
theorem d_X8_findSides_64 : decode mi_X8_findSides.2.1 64 = .ok (.iload_n 2, 1) := by decide +kernel
theorem d_X8_findSides_65 : decode mi_X8_findSides.2.1 65 = .ok (.iaload, 1) := by decide +kernel
theorem d_X8_findSides_66 : decode mi_X8_findSides.2.1 66 = .ok (.aload_n 0, 1) := by decide +kernel
theorem d_X8_findSides_67 : decode mi_X8_findSides.2.1 67 = .ok (.getfield 59, 3) := by decide +kernel
theorem d_X8_findSides_70 : decode mi_X8_findSides.2.1 70 = .ok (.iload_n 1, 1) := by decide +kernel
theorem d_X8_findSides_71 : decode mi_X8_findSides.2.1 71 = .ok (.iaload, 1) := by decide +kernel
theorem d_X8_findSides_72 : decode mi_X8_findSides.2.1 72 = .ok (.if_icmp .ne 20, 3) := by decide +kernel
theorem d_X8_findSides_75 : decode mi_X8_findSides.2.1 75 = .ok (.aload_n 0, 1) := by decide +kernel
theorem d_X8_findSides_76 : decode mi_X8_findSides.2.1 76 = .ok (.getfield 62, 3) := by decide +kernel
theorem d_X8_findSides_79 : decode mi_X8_findSides.2.1 79 = .ok (.iload_n 2, 1) := by decide +kernel
theorem d_X8_findSides_80 : decode mi_X8_findSides.2.1 80 = .ok (.iaload, 1) := by decide +kernel
theorem d_X8_findSides_81 : decode mi_X8_findSides.2.1 81 = .ok (.aload_n 0, 1) := by decide +kernel
theorem d_X8_findSides_82 : decode mi_X8_findSides.2.1 82 = .ok (.getfield 62, 3) := by decide +kernel
theorem d_X8_findSides_85 : decode mi_X8_findSides.2.1 85 = .ok (.iload_n 1, 1) := by decide +kernel
theorem d_X8_findSides_86 : decode mi_X8_findSides.2.1 86 = .ok (.iaload, 1) := by decide +kernel
theorem d_X8_findSides_87 : decode mi_X8_findSides.2.1 87 = .ok (.if_icmp .ge 5, 3) := by decide +kernel
theorem d_X8_findSides_90 : decode mi_X8_findSides.2.1 90 = .ok (.iload_n 2, 1) := by decide +kernel
theorem d_X8_findSides_91 : decode mi_X8_findSides.2.1 91 = .ok (.istore_n 1, 1) := by decide +kernel
theorem d_X8_findSides_92 : decode mi_X8_findSides.2.1 92 = .ok (.iinc 2 1, 3) := by decide +kernel
theorem d_X8_findSides_95 : decode mi_X8_findSides.2.1 95 = .ok (.goto (-58), 3) := by decide +kernel
theorem d_X8_findSides_98 : decode mi_X8_findSides.2.1 98 = .ok (.iconst 0, 1) := by decide +kernel
theorem d_X8_findSides_99 : decode mi_X8_findSides.2.1 99 = .ok (.istore_n 2, 1) := by decide +kernel
theorem d_X8_findSides_100 : decode mi_X8_findSides.2.1 100 = .ok (.iload_n 2, 1) := by decide +kernel
theorem d_X8_findSides_101 : decode mi_X8_findSides.2.1 101 = .ok (.iload_n 1, 1) := by decide +kernel
theorem d_X8_findSides_102 : decode mi_X8_findSides.2.1 102 = .ok (.if_icmp .ge 13, 3) := by decide +kernel
theorem d_X8_findSides_105 : decode mi_X8_findSides.2.1 105 = .ok (.aload_n 0, 1) := by decide +kernel
theorem d_X8_findSides_106 : decode mi_X8_findSides.2.1 106 = .ok (.invokevirtual 164, 3) := by decide +kernel
theorem d_X8_findSides_109 : decode mi_X8_findSides.2.1 109 = .ok (.iinc 2 1, 3) := by decide +kernel
theorem d_X8_findSides_112 : decode mi_X8_findSides.2.1 112 = .ok (.goto (-12), 3) := by decide +kernel
theorem d_X8_findSides_115 : decode mi_X8_findSides.2.1 115 = .ok (.return_, 1) := by decide +kernel
theorem fl_X8_16 : FL RX8 16 8 49 2 := ⟨RX8, TX8, rfl, by decide, rfl, by decide +kernel, in_8⟩
theorem cw_X8_154 : CV RX8 154 mi_X8_findPoints 0 := by unfold CV; decide +kernel
theorem cw_X8_160 : CV RX8 160 mi_X8_findSide 1 := by unfold CV; decide +kernel
theorem cw_X8_164 : CV RX8 164 mi_X8_turnRows 0 := by unfold CV; decide +kernel
def f_X8_findSides_100 : Nat → Int32 → Int32 → SS → Option (Unit × SS)
  | 0, _, _, _ => none
  | n + 1, v1, v2, σ => if v1 ≤ v2 then (some ((), σ)) else (cal (f_X8_turnRows  σ) (fun _ s1 => lt_ (v2 + (1 : Int32)) (fun x2 => f_X8_findSides_100 n v1 x2 s1)))
set_option maxRecDepth 20000 in
theorem t_X8_findSides_100 {d : Nat} {X : MX} {Y : MY} {b : Nat × Nat} {r : Unit} {σ' : SS} : ∀ (n : Nat) (v1 : Int32) (v2 : Int32) (σ : SS), f_X8_findSides_100 n v1 v2 σ = some (r, σ') → WM (d + 3) X Y b mi_X8_findSides 100 [some (vR 25 0), some (vI v1), some (vI v2)] [] σ (none, σ') := by
  intro n
  induction n with
  | zero => intro _ _ σ h; cases h
  | succ n ih =>
    intro v1 v2 σ h
    rw [f_X8_findSides_100] at h
    refine r_iload_n (pc' := 101) d_X8_findSides_100 rfl rfl rfl ?_
    refine r_iload_n (pc' := 102) d_X8_findSides_101 rfl rfl rfl ?_
    refine r_icmp_ge (pcT := 115) (pc' := 105) d_X8_findSides_102 rfl rfl h (fun _ h => ?_) (fun _ h => ?_)
    · exact r_vret d_X8_findSides_115 rfl h
    · refine r_aload_n (pc' := 106) d_X8_findSides_105 rfl rfl rfl ?_
      refine v0_v (mc := mi_X8_turnRows) (bc := (0, 0)) (b' := _) (pc' := 109) cw_X8_164 d_X8_findSides_106 rfl rfl rfl (Nat.zero_add _).symm (Nat.zero_add _).symm rfl h (fun _ _ e => t_X8_turnRows e) (fun _ s1 h => ?_)
      refine l_iinc (pc' := 112) d_X8_findSides_109 rfl ci_1 rfl rfl rfl h (fun x2 h => ?_)
      refine r_goto (pc' := 100) d_X8_findSides_112 rfl ?_
      exact WM.drop [] rfl (ih _ _ _ h)
def f_X8_findSides_98 (v1 : Int32) (σ : SS) : Option (Unit × SS) := f_X8_findSides_100 FU v1 (0 : Int32) σ
set_option maxRecDepth 20000 in
theorem t_X8_findSides_98 {d : Nat} {X : MX} {Y : MY} {b : Nat × Nat} {r : Unit} {σ' : SS} {v1 : Int32} {σ : SS} (h : f_X8_findSides_98 v1 σ = some (r, σ')) : WM (d + 3) X Y b mi_X8_findSides 98 [some (vR 25 0), some (vI v1), none] [] σ (none, σ') := by
  rw [f_X8_findSides_98] at h
  refine r_iconst (pc' := 99) d_X8_findSides_98 ci_0 rfl ?_
  refine r_istore_n (pc' := 100) d_X8_findSides_99 rfl rfl rfl rfl ?_
  exact WM.drop [] rfl (t_X8_findSides_100 _ _ _ _ h)
def f_X8_findSides_92 (K37 : Int32 → Int32 → SS → Option (Unit × SS)) (v1 : Int32) (v2 : Int32) (σ : SS) : Option (Unit × SS) := lt_ (v2 + (1 : Int32)) (fun x1 => K37 v1 x1 σ)
set_option maxRecDepth 20000 in
theorem t_X8_findSides_92 {d : Nat} {X : MX} {Y : MY} {b : Nat × Nat} {r : Unit} {σ' : SS} {K37 : Int32 → Int32 → SS → Option (Unit × SS)} {v1 : Int32} {v2 : Int32} (hK37 : ∀ (v1 : Int32) (v2 : Int32) (σ : SS), K37 v1 v2 σ = some (r, σ') → WM (d + 3) X Y b mi_X8_findSides 37 [some (vR 25 0), some (vI v1), some (vI v2)] [] σ (none, σ')) {σ : SS} (h : f_X8_findSides_92 K37 v1 v2 σ = some (r, σ')) : WM (d + 3) X Y b mi_X8_findSides 92 [some (vR 25 0), some (vI v1), some (vI v2)] [] σ (none, σ') := by
  rw [f_X8_findSides_92] at h
  refine l_iinc (pc' := 95) d_X8_findSides_92 rfl ci_1 rfl rfl rfl h (fun x1 h => ?_)
  refine r_goto (pc' := 37) d_X8_findSides_95 rfl ?_
  exact WM.drop [] rfl (hK37 _ _ _ h)
def f_X8_findSides_90 (K37 : Int32 → Int32 → SS → Option (Unit × SS)) (v2 : Int32) (σ : SS) : Option (Unit × SS) := f_X8_findSides_92 K37 v2 v2 σ
set_option maxRecDepth 20000 in
theorem t_X8_findSides_90 {d : Nat} {X : MX} {Y : MY} {b : Nat × Nat} {r : Unit} {σ' : SS} {K37 : Int32 → Int32 → SS → Option (Unit × SS)} {v2 : Int32} (hK37 : ∀ (v1 : Int32) (v2 : Int32) (σ : SS), K37 v1 v2 σ = some (r, σ') → WM (d + 3) X Y b mi_X8_findSides 37 [some (vR 25 0), some (vI v1), some (vI v2)] [] σ (none, σ')) {σ : SS} (h : f_X8_findSides_90 K37 v2 σ = some (r, σ')) : WM (d + 3) X Y b mi_X8_findSides 90 [some (vR 25 0), none, some (vI v2)] [] σ (none, σ') := by
  rw [f_X8_findSides_90] at h
  refine r_iload_n (pc' := 91) d_X8_findSides_90 rfl rfl rfl ?_
  refine r_istore_n (pc' := 92) d_X8_findSides_91 rfl rfl rfl rfl ?_
  exact WM.drop [] rfl (t_X8_findSides_92 hK37 h)
def f_X8_findSides_37 : Nat → Int32 → Int32 → SS → Option (Unit × SS)
  | 0, _, _, _ => none
  | n + 1, v1, v2, σ => if (σ.1 25 0 17) ≤ v2 then (f_X8_findSides_98 v1 σ) else (chk (inr v2 8) (chk (inr v1 8) (if (σ.1 59 0 (ix v2)) < (σ.1 59 0 (ix v1)) then (f_X8_findSides_90 (f_X8_findSides_37 n) v2 σ) else (chk (inr v2 8) (chk (inr v1 8) (if (σ.1 59 0 (ix v2)) = (σ.1 59 0 (ix v1)) then (chk (inr v2 8) (chk (inr v1 8) (if (σ.1 60 0 (ix v1)) ≤ (σ.1 60 0 (ix v2)) then (f_X8_findSides_92 (f_X8_findSides_37 n) v1 v2 σ) else (f_X8_findSides_90 (f_X8_findSides_37 n) v2 σ)))) else (f_X8_findSides_92 (f_X8_findSides_37 n) v1 v2 σ)))))))
set_option maxRecDepth 20000 in
theorem t_X8_findSides_37 {d : Nat} {X : MX} {Y : MY} {b : Nat × Nat} {r : Unit} {σ' : SS} : ∀ (n : Nat) (v1 : Int32) (v2 : Int32) (σ : SS), f_X8_findSides_37 n v1 v2 σ = some (r, σ') → WM (d + 3) X Y b mi_X8_findSides 37 [some (vR 25 0), some (vI v1), some (vI v2)] [] σ (none, σ') := by
  intro n
  induction n with
  | zero => intro _ _ σ h; cases h
  | succ n ih =>
    intro v1 v2 σ h
    rw [f_X8_findSides_37] at h
    refine r_iload_n (pc' := 38) d_X8_findSides_37 rfl rfl rfl ?_
    refine r_aload_n (pc' := 39) d_X8_findSides_38 rfl rfl rfl ?_
    refine r_get (v := vI _) (pc' := 42) fl_X8_157 d_X8_findSides_39 rfl rfl (fun _ => trivial) rfl ?_
    refine r_icmp_ge (pcT := 98) (pc' := 45) d_X8_findSides_42 rfl rfl h (fun _ h => ?_) (fun _ h => ?_)
    · exact WM.drop [2] rfl (t_X8_findSides_98 h)
    · refine r_aload_n (pc' := 46) d_X8_findSides_45 rfl rfl rfl ?_
      refine r_get (v := vR 59 _) (pc' := 49) fl_X8_59 d_X8_findSides_46 rfl rfl (fun g => Or.inl ⟨rfl, g.2⟩) rfl ?_
      refine r_iload_n (pc' := 50) d_X8_findSides_49 rfl rfl rfl ?_
      refine r_iaload (pc' := 51) d_X8_findSides_50 rfl (fun _ => rfl) rfl h (fun h => ?_)
      refine r_aload_n (pc' := 52) d_X8_findSides_51 rfl rfl rfl ?_
      refine r_get (v := vR 59 _) (pc' := 55) fl_X8_59 d_X8_findSides_52 rfl rfl (fun g => Or.inl ⟨rfl, g.2⟩) rfl ?_
      refine r_iload_n (pc' := 56) d_X8_findSides_55 rfl rfl rfl ?_
      refine r_iaload (pc' := 57) d_X8_findSides_56 rfl (fun _ => rfl) rfl h (fun h => ?_)
      refine r_icmp_lt (pcT := 90) (pc' := 60) d_X8_findSides_57 rfl rfl h (fun _ h => ?_) (fun _ h => ?_)
      · exact WM.drop [1] rfl (t_X8_findSides_90 ih h)
      · refine r_aload_n (pc' := 61) d_X8_findSides_60 rfl rfl rfl ?_
        refine r_get (v := vR 59 _) (pc' := 64) fl_X8_59 d_X8_findSides_61 rfl rfl (fun g => Or.inl ⟨rfl, g.2⟩) rfl ?_
        refine r_iload_n (pc' := 65) d_X8_findSides_64 rfl rfl rfl ?_
        refine r_iaload (pc' := 66) d_X8_findSides_65 rfl (fun _ => rfl) rfl h (fun h => ?_)
        refine r_aload_n (pc' := 67) d_X8_findSides_66 rfl rfl rfl ?_
        refine r_get (v := vR 59 _) (pc' := 70) fl_X8_59 d_X8_findSides_67 rfl rfl (fun g => Or.inl ⟨rfl, g.2⟩) rfl ?_
        refine r_iload_n (pc' := 71) d_X8_findSides_70 rfl rfl rfl ?_
        refine r_iaload (pc' := 72) d_X8_findSides_71 rfl (fun _ => rfl) rfl h (fun h => ?_)
        refine r_icmp_ne (pcT := 92) (pc' := 75) d_X8_findSides_72 rfl rfl h (fun _ h => ?_) (fun _ h => ?_)
        · refine r_aload_n (pc' := 76) d_X8_findSides_75 rfl rfl rfl ?_
          refine r_get (v := vR 60 _) (pc' := 79) fl_X8_62 d_X8_findSides_76 rfl rfl (fun g => Or.inl ⟨rfl, g.2⟩) rfl ?_
          refine r_iload_n (pc' := 80) d_X8_findSides_79 rfl rfl rfl ?_
          refine r_iaload (pc' := 81) d_X8_findSides_80 rfl (fun _ => rfl) rfl h (fun h => ?_)
          refine r_aload_n (pc' := 82) d_X8_findSides_81 rfl rfl rfl ?_
          refine r_get (v := vR 60 _) (pc' := 85) fl_X8_62 d_X8_findSides_82 rfl rfl (fun g => Or.inl ⟨rfl, g.2⟩) rfl ?_
          refine r_iload_n (pc' := 86) d_X8_findSides_85 rfl rfl rfl ?_
          refine r_iaload (pc' := 87) d_X8_findSides_86 rfl (fun _ => rfl) rfl h (fun h => ?_)
          refine r_icmp_ge (pcT := 92) (pc' := 90) d_X8_findSides_87 rfl rfl h (fun _ h => ?_) (fun _ h => ?_)
          · exact WM.drop [] rfl (t_X8_findSides_92 ih h)
          · exact WM.drop [1] rfl (t_X8_findSides_90 ih h)
        · exact WM.drop [] rfl (t_X8_findSides_92 ih h)
def f_X8_findSides_33 (σ : SS) : Option (Unit × SS) := f_X8_findSides_37 FU (0 : Int32) (1 : Int32) σ
set_option maxRecDepth 20000 in
theorem t_X8_findSides_33 {d : Nat} {X : MX} {Y : MY} {b : Nat × Nat} {r : Unit} {σ' : SS} {σ : SS} (h : f_X8_findSides_33 σ = some (r, σ')) : WM (d + 3) X Y b mi_X8_findSides 33 [some (vR 25 0), none, none] [] σ (none, σ') := by
  rw [f_X8_findSides_33] at h
  refine r_iconst (pc' := 34) d_X8_findSides_33 ci_0 rfl ?_
  refine r_istore_n (pc' := 35) d_X8_findSides_34 rfl rfl rfl rfl ?_
  refine r_iconst (pc' := 36) d_X8_findSides_35 ci_1 rfl ?_
  refine r_istore_n (pc' := 37) d_X8_findSides_36 rfl rfl rfl rfl ?_
  exact WM.drop [] rfl (t_X8_findSides_37 _ _ _ _ h)
def f_X8_findSides_11 : Nat → Int32 → SS → Option (Unit × SS)
  | 0, _, _ => none
  | n + 1, v1, σ => if (8 : Int32) ≤ v1 then (f_X8_findSides_33  σ) else (chk (inr v1 8) (cal (f_X8_findSide (σ.1 42 0 (ix v1)) σ) (fun _ s1 => lt_ (v1 + (1 : Int32)) (fun x2 => f_X8_findSides_11 n x2 s1))))
set_option maxRecDepth 20000 in
theorem t_X8_findSides_11 {d : Nat} {X : MX} {Y : MY} {b : Nat × Nat} {r : Unit} {σ' : SS} : ∀ (n : Nat) (v1 : Int32) (σ : SS), f_X8_findSides_11 n v1 σ = some (r, σ') → WM (d + 3) X Y b mi_X8_findSides 11 [some (vR 25 0), some (vI v1), none] [] σ (none, σ') := by
  intro n
  induction n with
  | zero => intro _ σ h; cases h
  | succ n ih =>
    intro v1 σ h
    rw [f_X8_findSides_11] at h
    refine r_iload_n (pc' := 12) d_X8_findSides_11 rfl rfl rfl ?_
    refine r_bipush (pc' := 14) d_X8_findSides_12 cb_8 rfl ?_
    refine r_icmp_ge (pcT := 33) (pc' := 17) d_X8_findSides_14 rfl rfl h (fun _ h => ?_) (fun _ h => ?_)
    · exact WM.drop [1] rfl (t_X8_findSides_33 h)
    · refine r_aload_n (pc' := 18) d_X8_findSides_17 rfl rfl rfl ?_
      refine r_aload_n (pc' := 19) d_X8_findSides_18 rfl rfl rfl ?_
      refine r_get (v := vR 42 _) (pc' := 22) fl_X8_16 d_X8_findSides_19 rfl rfl (fun g => Or.inl ⟨rfl, g.2⟩) rfl ?_
      refine r_iload_n (pc' := 23) d_X8_findSides_22 rfl rfl rfl ?_
      refine r_iaload (pc' := 24) d_X8_findSides_23 rfl (fun _ => rfl) rfl h (fun h => ?_)
      refine v1_v (mc := mi_X8_findSide) (bc := (0, 0)) (b' := _) (pc' := 27) cw_X8_160 d_X8_findSides_24 rfl rfl rfl (Nat.zero_add _).symm (Nat.zero_add _).symm rfl h (fun _ _ e => t_X8_findSide e) (fun _ s1 h => ?_)
      refine l_iinc (pc' := 30) d_X8_findSides_27 rfl ci_1 rfl rfl rfl h (fun x2 h => ?_)
      refine r_goto (pc' := 11) d_X8_findSides_30 rfl ?_
      exact WM.drop [] rfl (ih _ _ h)
def f_X8_findSides (σ : SS) : Option (Unit × SS) := cal (f_X8_findPoints  σ) (fun _ s1 => lt_ (up s1 25 0 17 (0 : Int32)) (fun s2 => f_X8_findSides_11 FU (0 : Int32) s2))
set_option maxRecDepth 20000 in
theorem t_X8_findSides {d : Nat} {b : Nat × Nat} {σ : SS} {r : Unit} {σ' : SS} (h : f_X8_findSides σ = some (r, σ')) : MM (d + 3) b mi_X8_findSides [vR 25 0] σ (none, σ') := by
  refine MM.of (lv := [some (vR 25 0), none, none]) (by decide +kernel) rfl rfl (fun X Y => ?_)
  rw [f_X8_findSides] at h
  refine r_aload_n (pc' := 1) d_X8_findSides_0 rfl rfl rfl ?_
  refine v0_v (mc := mi_X8_findPoints) (bc := (0, 0)) (b' := _) (pc' := 4) cw_X8_154 d_X8_findSides_1 rfl rfl rfl (Nat.zero_add _).symm (Nat.zero_add _).symm rfl h (fun _ _ e => t_X8_findPoints e) (fun _ s1 h => ?_)
  refine r_aload_n (pc' := 5) d_X8_findSides_4 rfl rfl rfl ?_
  refine r_iconst (pc' := 6) d_X8_findSides_5 ci_0 rfl ?_
  refine l_put (k := 17) (pc' := 9) fl_X8_157 fw_8_17 rfl rfl d_X8_findSides_6 rfl (by decide) (by decide) rfl rfl h (fun s2 h => ?_)
  refine r_iconst (pc' := 10) d_X8_findSides_9 ci_0 rfl ?_
  refine r_istore_n (pc' := 11) d_X8_findSides_10 rfl rfl rfl rfl ?_
  exact WM.drop [] rfl (t_X8_findSides_11 _ _ _ h)
/-! OctagonYardModel.areaNow()I -/
def mi_X8_areaNow : MI := (yX8_areaNow, cX8_areaNow, 3, (some .int))
theorem d_X8_areaNow_0 : decode mi_X8_areaNow.2.1 0 = .ok (.iconst 0, 1) := by decide +kernel
theorem d_X8_areaNow_1 : decode mi_X8_areaNow.2.1 1 = .ok (.istore_n 1, 1) := by decide +kernel
theorem d_X8_areaNow_2 : decode mi_X8_areaNow.2.1 2 = .ok (.iconst 0, 1) := by decide +kernel
theorem d_X8_areaNow_3 : decode mi_X8_areaNow.2.1 3 = .ok (.istore_n 2, 1) := by decide +kernel
theorem d_X8_areaNow_4 : decode mi_X8_areaNow.2.1 4 = .ok (.iload_n 2, 1) := by decide +kernel
theorem d_X8_areaNow_5 : decode mi_X8_areaNow.2.1 5 = .ok (.aload_n 0, 1) := by decide +kernel
theorem d_X8_areaNow_6 : decode mi_X8_areaNow.2.1 6 = .ok (.getfield 157, 3) := by decide +kernel
theorem d_X8_areaNow_9 : decode mi_X8_areaNow.2.1 9 = .ok (.if_icmp .ge 39, 3) := by decide +kernel
theorem d_X8_areaNow_12 : decode mi_X8_areaNow.2.1 12 = .ok (.iload_n 1, 1) := by decide +kernel
theorem d_X8_areaNow_13 : decode mi_X8_areaNow.2.1 13 = .ok (.aload_n 0, 1) := by decide +kernel
theorem d_X8_areaNow_14 : decode mi_X8_areaNow.2.1 14 = .ok (.getfield 59, 3) := by decide +kernel
theorem d_X8_areaNow_17 : decode mi_X8_areaNow.2.1 17 = .ok (.iload_n 2, 1) := by decide +kernel
theorem d_X8_areaNow_18 : decode mi_X8_areaNow.2.1 18 = .ok (.iaload, 1) := by decide +kernel
theorem d_X8_areaNow_19 : decode mi_X8_areaNow.2.1 19 = .ok (.aload_n 0, 1) := by decide +kernel
theorem d_X8_areaNow_20 : decode mi_X8_areaNow.2.1 20 = .ok (.getfield 68, 3) := by decide +kernel
theorem d_X8_areaNow_23 : decode mi_X8_areaNow.2.1 23 = .ok (.iload_n 2, 1) := by decide +kernel
theorem d_X8_areaNow_24 : decode mi_X8_areaNow.2.1 24 = .ok (.iaload, 1) := by decide +kernel
theorem d_X8_areaNow_25 : decode mi_X8_areaNow.2.1 25 = .ok (.imul, 1) := by decide +kernel
theorem d_X8_areaNow_26 : decode mi_X8_areaNow.2.1 26 = .ok (.aload_n 0, 1) := by decide +kernel
theorem d_X8_areaNow_27 : decode mi_X8_areaNow.2.1 27 = .ok (.getfield 62, 3) := by decide +kernel
theorem d_X8_areaNow_30 : decode mi_X8_areaNow.2.1 30 = .ok (.iload_n 2, 1) := by decide +kernel
theorem d_X8_areaNow_31 : decode mi_X8_areaNow.2.1 31 = .ok (.iaload, 1) := by decide +kernel
theorem d_X8_areaNow_32 : decode mi_X8_areaNow.2.1 32 = .ok (.aload_n 0, 1) := by decide +kernel
theorem d_X8_areaNow_33 : decode mi_X8_areaNow.2.1 33 = .ok (.getfield 65, 3) := by decide +kernel
theorem d_X8_areaNow_36 : decode mi_X8_areaNow.2.1 36 = .ok (.iload_n 2, 1) := by decide +kernel
theorem d_X8_areaNow_37 : decode mi_X8_areaNow.2.1 37 = .ok (.iaload, 1) := by decide +kernel
theorem d_X8_areaNow_38 : decode mi_X8_areaNow.2.1 38 = .ok (.imul, 1) := by decide +kernel
theorem d_X8_areaNow_39 : decode mi_X8_areaNow.2.1 39 = .ok (.isub, 1) := by decide +kernel
theorem d_X8_areaNow_40 : decode mi_X8_areaNow.2.1 40 = .ok (.iadd, 1) := by decide +kernel
theorem d_X8_areaNow_41 : decode mi_X8_areaNow.2.1 41 = .ok (.istore_n 1, 1) := by decide +kernel
theorem d_X8_areaNow_42 : decode mi_X8_areaNow.2.1 42 = .ok (.iinc 2 1, 3) := by decide +kernel
theorem d_X8_areaNow_45 : decode mi_X8_areaNow.2.1 45 = .ok (.goto (-41), 3) := by decide +kernel
theorem d_X8_areaNow_48 : decode mi_X8_areaNow.2.1 48 = .ok (.iload_n 1, 1) := by decide +kernel
theorem d_X8_areaNow_49 : decode mi_X8_areaNow.2.1 49 = .ok (.ireturn, 1) := by decide +kernel
def f_X8_areaNow_4 : Nat → Int32 → Int32 → SS → Option (Int32 × SS)
  | 0, _, _, _ => none
  | n + 1, v1, v2, σ => if (σ.1 25 0 17) ≤ v2 then (some (v1, σ)) else (chk (inr v2 8) (chk (inr v2 8) (chk (inr v2 8) (chk (inr v2 8) (lt_ (v1 + (((σ.1 59 0 (ix v2)) * (σ.1 62 0 (ix v2))) - ((σ.1 60 0 (ix v2)) * (σ.1 61 0 (ix v2))))) (fun x1 => lt_ (v2 + (1 : Int32)) (fun x2 => f_X8_areaNow_4 n x1 x2 σ)))))))
set_option maxRecDepth 20000 in
theorem t_X8_areaNow_4 {d : Nat} {X : MX} {Y : MY} {b : Nat × Nat} {r : Int32} {σ' : SS} : ∀ (n : Nat) (v1 : Int32) (v2 : Int32) (σ : SS), f_X8_areaNow_4 n v1 v2 σ = some (r, σ') → WM d X Y b mi_X8_areaNow 4 [some (vR 25 0), some (vI v1), some (vI v2)] [] σ (some (vI r), σ') := by
  intro n
  induction n with
  | zero => intro _ _ σ h; cases h
  | succ n ih =>
    intro v1 v2 σ h
    rw [f_X8_areaNow_4] at h
    refine r_iload_n (pc' := 5) d_X8_areaNow_4 rfl rfl rfl ?_
    refine r_aload_n (pc' := 6) d_X8_areaNow_5 rfl rfl rfl ?_
    refine r_get (v := vI _) (pc' := 9) fl_X8_157 d_X8_areaNow_6 rfl rfl (fun _ => trivial) rfl ?_
    refine r_icmp_ge (pcT := 48) (pc' := 12) d_X8_areaNow_9 rfl rfl h (fun _ h => ?_) (fun _ h => ?_)
    · refine r_iload_n (pc' := 49) d_X8_areaNow_48 rfl rfl rfl ?_
      exact r_iret d_X8_areaNow_49 rfl h
    · refine r_iload_n (pc' := 13) d_X8_areaNow_12 rfl rfl rfl ?_
      refine r_aload_n (pc' := 14) d_X8_areaNow_13 rfl rfl rfl ?_
      refine r_get (v := vR 59 _) (pc' := 17) fl_X8_59 d_X8_areaNow_14 rfl rfl (fun g => Or.inl ⟨rfl, g.2⟩) rfl ?_
      refine r_iload_n (pc' := 18) d_X8_areaNow_17 rfl rfl rfl ?_
      refine r_iaload (pc' := 19) d_X8_areaNow_18 rfl (fun _ => rfl) rfl h (fun h => ?_)
      refine r_aload_n (pc' := 20) d_X8_areaNow_19 rfl rfl rfl ?_
      refine r_get (v := vR 62 _) (pc' := 23) fl_X8_68 d_X8_areaNow_20 rfl rfl (fun g => Or.inl ⟨rfl, g.2⟩) rfl ?_
      refine r_iload_n (pc' := 24) d_X8_areaNow_23 rfl rfl rfl ?_
      refine r_iaload (pc' := 25) d_X8_areaNow_24 rfl (fun _ => rfl) rfl h (fun h => ?_)
      refine r_imul (pc' := 26) d_X8_areaNow_25 rfl ?_
      refine r_aload_n (pc' := 27) d_X8_areaNow_26 rfl rfl rfl ?_
      refine r_get (v := vR 60 _) (pc' := 30) fl_X8_62 d_X8_areaNow_27 rfl rfl (fun g => Or.inl ⟨rfl, g.2⟩) rfl ?_
      refine r_iload_n (pc' := 31) d_X8_areaNow_30 rfl rfl rfl ?_
      refine r_iaload (pc' := 32) d_X8_areaNow_31 rfl (fun _ => rfl) rfl h (fun h => ?_)
      refine r_aload_n (pc' := 33) d_X8_areaNow_32 rfl rfl rfl ?_
      refine r_get (v := vR 61 _) (pc' := 36) fl_X8_65 d_X8_areaNow_33 rfl rfl (fun g => Or.inl ⟨rfl, g.2⟩) rfl ?_
      refine r_iload_n (pc' := 37) d_X8_areaNow_36 rfl rfl rfl ?_
      refine r_iaload (pc' := 38) d_X8_areaNow_37 rfl (fun _ => rfl) rfl h (fun h => ?_)
      refine r_imul (pc' := 39) d_X8_areaNow_38 rfl ?_
      refine r_isub (pc' := 40) d_X8_areaNow_39 rfl ?_
      refine r_iadd (pc' := 41) d_X8_areaNow_40 rfl ?_
      refine l_istore_n (pc' := 42) d_X8_areaNow_41 rfl rfl rfl rfl h (fun x1 h => ?_)
      refine l_iinc (pc' := 45) d_X8_areaNow_42 rfl ci_1 rfl rfl rfl h (fun x2 h => ?_)
      refine r_goto (pc' := 4) d_X8_areaNow_45 rfl ?_
      exact WM.drop [] rfl (ih _ _ _ h)
def f_X8_areaNow (σ : SS) : Option (Int32 × SS) := f_X8_areaNow_4 FU (0 : Int32) (0 : Int32) σ
set_option maxRecDepth 20000 in
theorem t_X8_areaNow {d : Nat} {b : Nat × Nat} {σ : SS} {r : Int32} {σ' : SS} (h : f_X8_areaNow σ = some (r, σ')) : MM d b mi_X8_areaNow [vR 25 0] σ (some (vI r), σ') := by
  refine MM.of (lv := [some (vR 25 0), none, none]) (by decide +kernel) rfl rfl (fun X Y => ?_)
  rw [f_X8_areaNow] at h
  refine r_iconst (pc' := 1) d_X8_areaNow_0 ci_0 rfl ?_
  refine r_istore_n (pc' := 2) d_X8_areaNow_1 rfl rfl rfl rfl ?_
  refine r_iconst (pc' := 3) d_X8_areaNow_2 ci_0 rfl ?_
  refine r_istore_n (pc' := 4) d_X8_areaNow_3 rfl rfl rfl rfl ?_
  exact WM.drop [] rfl (t_X8_areaNow_4 _ _ _ _ h)
/-! OctagonYardModel.most(I)I -/
def mi_X8_most : MI := (yX8_most, cX8_most, 5, (some .int))
theorem d_X8_most_0 : decode mi_X8_most.2.1 0 = .ok (.iconst 0, 1) := by decide +kernel
theorem d_X8_most_1 : decode mi_X8_most.2.1 1 = .ok (.istore_n 2, 1) := by decide +kernel
theorem d_X8_most_2 : decode mi_X8_most.2.1 2 = .ok (.iconst 0, 1) := by decide +kernel
theorem d_X8_most_3 : decode mi_X8_most.2.1 3 = .ok (.istore_n 3, 1) := by decide +kernel
theorem d_X8_most_4 : decode mi_X8_most.2.1 4 = .ok (.iload_n 3, 1) := by decide +kernel
theorem d_X8_most_5 : decode mi_X8_most.2.1 5 = .ok (.aload_n 0, 1) := by decide +kernel
theorem d_X8_most_6 : decode mi_X8_most.2.1 6 = .ok (.getfield 147, 3) := by decide +kernel
theorem d_X8_most_9 : decode mi_X8_most.2.1 9 = .ok (.if_icmp .ge 55, 3) := by decide +kernel
theorem d_X8_most_12 : decode mi_X8_most.2.1 12 = .ok (.aload_n 0, 1) := by decide +kernel
theorem d_X8_most_13 : decode mi_X8_most.2.1 13 = .ok (.getfield 7, 3) := by decide +kernel
theorem d_X8_most_16 : decode mi_X8_most.2.1 16 = .ok (.iload_n 1, 1) := by decide +kernel
theorem d_X8_most_17 : decode mi_X8_most.2.1 17 = .ok (.iaload, 1) := by decide +kernel
theorem d_X8_most_18 : decode mi_X8_most.2.1 18 = .ok (.aload_n 0, 1) := by decide +kernel
theorem d_X8_most_19 : decode mi_X8_most.2.1 19 = .ok (.getfield 50, 3) := by decide +kernel
theorem d_X8_most_22 : decode mi_X8_most.2.1 22 = .ok (.iload_n 3, 1) := by decide +kernel
theorem d_X8_most_23 : decode mi_X8_most.2.1 23 = .ok (.iaload, 1) := by decide +kernel
theorem d_X8_most_24 : decode mi_X8_most.2.1 24 = .ok (.imul, 1) := by decide +kernel
theorem d_X8_most_25 : decode mi_X8_most.2.1 25 = .ok (.aload_n 0, 1) := by decide +kernel
theorem d_X8_most_26 : decode mi_X8_most.2.1 26 = .ok (.getfield 13, 3) := by decide +kernel
theorem d_X8_most_29 : decode mi_X8_most.2.1 29 = .ok (.iload_n 1, 1) := by decide +kernel
theorem d_X8_most_30 : decode mi_X8_most.2.1 30 = .ok (.iaload, 1) := by decide +kernel
theorem d_X8_most_31 : decode mi_X8_most.2.1 31 = .ok (.aload_n 0, 1) := by decide +kernel
theorem d_X8_most_32 : decode mi_X8_most.2.1 32 = .ok (.getfield 53, 3) := by decide +kernel
theorem d_X8_most_35 : decode mi_X8_most.2.1 35 = .ok (.iload_n 3, 1) := by decide +kernel
theorem d_X8_most_36 : decode mi_X8_most.2.1 36 = .ok (.iaload, 1) := by decide +kernel
theorem d_X8_most_37 : decode mi_X8_most.2.1 37 = .ok (.imul, 1) := by decide +kernel
theorem d_X8_most_38 : decode mi_X8_most.2.1 38 = .ok (.iadd, 1) := by decide +kernel
theorem d_X8_most_39 : decode mi_X8_most.2.1 39 = .ok (.istore 4, 2) := by decide +kernel
theorem d_X8_most_41 : decode mi_X8_most.2.1 41 = .ok (.iload_n 3, 1) := by decide +kernel
theorem d_X8_most_42 : decode mi_X8_most.2.1 42 = .ok (.ifCond .eq 9, 3) := by decide +kernel
theorem d_X8_most_45 : decode mi_X8_most.2.1 45 = .ok (.iload 4, 2) := by decide +kernel
theorem d_X8_most_47 : decode mi_X8_most.2.1 47 = .ok (.iload_n 2, 1) := by decide +kernel
theorem d_X8_most_48 : decode mi_X8_most.2.1 48 = .ok (.if_icmp .le 8, 3) := by decide +kernel
theorem d_X8_most_51 : decode mi_X8_most.2.1 51 = .ok (.iload 4, 2) := by decide +kernel
theorem d_X8_most_53 : decode mi_X8_most.2.1 53 = .ok (.goto 4, 3) := by decide +kernel
theorem d_X8_most_56 : decode mi_X8_most.2.1 56 = .ok (.iload_n 2, 1) := by decide +kernel
theorem d_X8_most_57 : decode mi_X8_most.2.1 57 = .ok (.istore_n 2, 1) := by decide +kernel
theorem d_X8_most_58 : decode mi_X8_most.2.1 58 = .ok (.iinc 3 1, 3) := by decide +kernel
theorem d_X8_most_61 : decode mi_X8_most.2.1 61 = .ok (.goto (-57), 3) := by decide +kernel
theorem d_X8_most_64 : decode mi_X8_most.2.1 64 = .ok (.iload_n 2, 1) := by decide +kernel
theorem d_X8_most_65 : decode mi_X8_most.2.1 65 = .ok (.ireturn, 1) := by decide +kernel
def f_X8_most_57 (K4 : Int32 → Int32 → Int32 → SS → Option (Int32 × SS)) (v1 : Int32) (v3 : Int32) (u0 : Int32) (σ : SS) : Option (Int32 × SS) := lt_ (v3 + (1 : Int32)) (fun x1 => K4 v1 u0 x1 σ)
set_option maxRecDepth 20000 in
theorem t_X8_most_57 {d : Nat} {X : MX} {Y : MY} {b : Nat × Nat} {r : Int32} {σ' : SS} {K4 : Int32 → Int32 → Int32 → SS → Option (Int32 × SS)} {v1 : Int32} {v3 : Int32} {u0 : Int32} (hK4 : ∀ (v1 : Int32) (v2 : Int32) (v3 : Int32) (σ : SS), K4 v1 v2 v3 σ = some (r, σ') → WM d X Y b mi_X8_most 4 [some (vR 25 0), some (vI v1), some (vI v2), some (vI v3), none] [] σ (some (vI r), σ')) {σ : SS} (h : f_X8_most_57 K4 v1 v3 u0 σ = some (r, σ')) : WM d X Y b mi_X8_most 57 [some (vR 25 0), some (vI v1), none, some (vI v3), none] [vI u0] σ (some (vI r), σ') := by
  rw [f_X8_most_57] at h
  refine r_istore_n (pc' := 58) d_X8_most_57 rfl rfl rfl rfl ?_
  refine l_iinc (pc' := 61) d_X8_most_58 rfl ci_1 rfl rfl rfl h (fun x1 h => ?_)
  refine r_goto (pc' := 4) d_X8_most_61 rfl ?_
  exact WM.drop [] rfl (hK4 _ _ _ _ h)
def f_X8_most_51 (K4 : Int32 → Int32 → Int32 → SS → Option (Int32 × SS)) (v1 : Int32) (v3 : Int32) (v4 : Int32) (σ : SS) : Option (Int32 × SS) := f_X8_most_57 K4 v1 v3 v4 σ
set_option maxRecDepth 20000 in
theorem t_X8_most_51 {d : Nat} {X : MX} {Y : MY} {b : Nat × Nat} {r : Int32} {σ' : SS} {K4 : Int32 → Int32 → Int32 → SS → Option (Int32 × SS)} {v1 : Int32} {v3 : Int32} {v4 : Int32} (hK4 : ∀ (v1 : Int32) (v2 : Int32) (v3 : Int32) (σ : SS), K4 v1 v2 v3 σ = some (r, σ') → WM d X Y b mi_X8_most 4 [some (vR 25 0), some (vI v1), some (vI v2), some (vI v3), none] [] σ (some (vI r), σ')) {σ : SS} (h : f_X8_most_51 K4 v1 v3 v4 σ = some (r, σ')) : WM d X Y b mi_X8_most 51 [some (vR 25 0), some (vI v1), none, some (vI v3), some (vI v4)] [] σ (some (vI r), σ') := by
  rw [f_X8_most_51] at h
  refine r_iload (pc' := 53) d_X8_most_51 rfl rfl ?_
  refine r_goto (pc' := 57) d_X8_most_53 rfl ?_
  exact WM.drop [4] rfl (t_X8_most_57 hK4 h)
def f_X8_most_4 : Nat → Int32 → Int32 → Int32 → SS → Option (Int32 × SS)
  | 0, _, _, _, _ => none
  | n + 1, v1, v2, v3, σ => if (σ.1 25 0 14) ≤ v3 then (some (v2, σ)) else (chk (inr v1 8) (chk (inr v3 32) (chk (inr v1 8) (chk (inr v3 32) (lt_ (((σ.1 40 0 (ix v1)) * (σ.1 55 0 (ix v3))) + ((σ.1 41 0 (ix v1)) * (σ.1 56 0 (ix v3)))) (fun x1 => if v3 = 0 then (f_X8_most_51 (f_X8_most_4 n) v1 v3 x1 σ) else (if x1 ≤ v2 then (f_X8_most_57 (f_X8_most_4 n) v1 v3 v2 σ) else (f_X8_most_51 (f_X8_most_4 n) v1 v3 x1 σ))))))))
set_option maxRecDepth 20000 in
theorem t_X8_most_4 {d : Nat} {X : MX} {Y : MY} {b : Nat × Nat} {r : Int32} {σ' : SS} : ∀ (n : Nat) (v1 : Int32) (v2 : Int32) (v3 : Int32) (σ : SS), f_X8_most_4 n v1 v2 v3 σ = some (r, σ') → WM d X Y b mi_X8_most 4 [some (vR 25 0), some (vI v1), some (vI v2), some (vI v3), none] [] σ (some (vI r), σ') := by
  intro n
  induction n with
  | zero => intro _ _ _ σ h; cases h
  | succ n ih =>
    intro v1 v2 v3 σ h
    rw [f_X8_most_4] at h
    refine r_iload_n (pc' := 5) d_X8_most_4 rfl rfl rfl ?_
    refine r_aload_n (pc' := 6) d_X8_most_5 rfl rfl rfl ?_
    refine r_get (v := vI _) (pc' := 9) fl_X8_147 d_X8_most_6 rfl rfl (fun _ => trivial) rfl ?_
    refine r_icmp_ge (pcT := 64) (pc' := 12) d_X8_most_9 rfl rfl h (fun _ h => ?_) (fun _ h => ?_)
    · refine r_iload_n (pc' := 65) d_X8_most_64 rfl rfl rfl ?_
      exact r_iret d_X8_most_65 rfl h
    · refine r_aload_n (pc' := 13) d_X8_most_12 rfl rfl rfl ?_
      refine r_get (v := vR 40 _) (pc' := 16) fl_X8_7 d_X8_most_13 rfl rfl (fun g => Or.inl ⟨rfl, g.2⟩) rfl ?_
      refine r_iload_n (pc' := 17) d_X8_most_16 rfl rfl rfl ?_
      refine r_iaload (pc' := 18) d_X8_most_17 rfl (fun _ => rfl) rfl h (fun h => ?_)
      refine r_aload_n (pc' := 19) d_X8_most_18 rfl rfl rfl ?_
      refine r_get (v := vR 55 _) (pc' := 22) fl_X8_50 d_X8_most_19 rfl rfl (fun g => Or.inl ⟨rfl, g.2⟩) rfl ?_
      refine r_iload_n (pc' := 23) d_X8_most_22 rfl rfl rfl ?_
      refine r_iaload (pc' := 24) d_X8_most_23 rfl (fun _ => rfl) rfl h (fun h => ?_)
      refine r_imul (pc' := 25) d_X8_most_24 rfl ?_
      refine r_aload_n (pc' := 26) d_X8_most_25 rfl rfl rfl ?_
      refine r_get (v := vR 41 _) (pc' := 29) fl_X8_13 d_X8_most_26 rfl rfl (fun g => Or.inl ⟨rfl, g.2⟩) rfl ?_
      refine r_iload_n (pc' := 30) d_X8_most_29 rfl rfl rfl ?_
      refine r_iaload (pc' := 31) d_X8_most_30 rfl (fun _ => rfl) rfl h (fun h => ?_)
      refine r_aload_n (pc' := 32) d_X8_most_31 rfl rfl rfl ?_
      refine r_get (v := vR 56 _) (pc' := 35) fl_X8_53 d_X8_most_32 rfl rfl (fun g => Or.inl ⟨rfl, g.2⟩) rfl ?_
      refine r_iload_n (pc' := 36) d_X8_most_35 rfl rfl rfl ?_
      refine r_iaload (pc' := 37) d_X8_most_36 rfl (fun _ => rfl) rfl h (fun h => ?_)
      refine r_imul (pc' := 38) d_X8_most_37 rfl ?_
      refine r_iadd (pc' := 39) d_X8_most_38 rfl ?_
      refine l_istore (pc' := 41) d_X8_most_39 rfl rfl rfl h (fun x1 h => ?_)
      refine r_iload_n (pc' := 42) d_X8_most_41 rfl rfl rfl ?_
      refine r_if_eq (pcT := 51) (pc' := 45) d_X8_most_42 rfl rfl h (fun _ h => ?_) (fun _ h => ?_)
      · exact WM.drop [2] rfl (t_X8_most_51 ih h)
      · refine r_iload (pc' := 47) d_X8_most_45 rfl rfl ?_
        refine r_iload_n (pc' := 48) d_X8_most_47 rfl rfl rfl ?_
        refine r_icmp_le (pcT := 56) (pc' := 51) d_X8_most_48 rfl rfl h (fun _ h => ?_) (fun _ h => ?_)
        · refine r_iload_n (pc' := 57) d_X8_most_56 rfl rfl rfl ?_
          exact WM.drop [2, 4] rfl (t_X8_most_57 ih h)
        · exact WM.drop [2] rfl (t_X8_most_51 ih h)
def f_X8_most (v1 : Int32) (σ : SS) : Option (Int32 × SS) := f_X8_most_4 FU v1 (0 : Int32) (0 : Int32) σ
set_option maxRecDepth 20000 in
theorem t_X8_most {d : Nat} {b : Nat × Nat} {v1 : Int32} {σ : SS} {r : Int32} {σ' : SS} (h : f_X8_most v1 σ = some (r, σ')) : MM d b mi_X8_most [vR 25 0, vI v1] σ (some (vI r), σ') := by
  refine MM.of (lv := [some (vR 25 0), some (vI v1), none, none, none]) (by decide +kernel) rfl rfl (fun X Y => ?_)
  rw [f_X8_most] at h
  refine r_iconst (pc' := 1) d_X8_most_0 ci_0 rfl ?_
  refine r_istore_n (pc' := 2) d_X8_most_1 rfl rfl rfl rfl ?_
  refine r_iconst (pc' := 3) d_X8_most_2 ci_0 rfl ?_
  refine r_istore_n (pc' := 4) d_X8_most_3 rfl rfl rfl rfl ?_
  exact WM.drop [] rfl (t_X8_most_4 _ _ _ _ _ h)
/-! OctagonYardModel.up(I)I -/
def mi_X8_up : MI := (yX8_up, cX8_up, 1, (some .int))
theorem d_X8_up_0 : decode mi_X8_up.2.1 0 = .ok (.iload_n 0, 1) := by decide +kernel
theorem d_X8_up_1 : decode mi_X8_up.2.1 1 = .ok (.iconst 2, 1) := by decide +kernel
theorem d_X8_up_2 : decode mi_X8_up.2.1 2 = .ok (.irem, 1) := by decide +kernel
theorem d_X8_up_3 : decode mi_X8_up.2.1 3 = .ok (.ifCond .ne 9, 3) := by decide +kernel
theorem d_X8_up_6 : decode mi_X8_up.2.1 6 = .ok (.iload_n 0, 1) := by decide +kernel
theorem d_X8_up_7 : decode mi_X8_up.2.1 7 = .ok (.iconst 2, 1) := by decide +kernel
theorem d_X8_up_8 : decode mi_X8_up.2.1 8 = .ok (.idiv, 1) := by decide +kernel
theorem d_X8_up_9 : decode mi_X8_up.2.1 9 = .ok (.goto 18, 3) := by decide +kernel
theorem d_X8_up_12 : decode mi_X8_up.2.1 12 = .ok (.iload_n 0, 1) := by decide +kernel
theorem d_X8_up_13 : decode mi_X8_up.2.1 13 = .ok (.ifCond .le 11, 3) := by decide +kernel
theorem d_X8_up_16 : decode mi_X8_up.2.1 16 = .ok (.iload_n 0, 1) := by decide +kernel
theorem d_X8_up_17 : decode mi_X8_up.2.1 17 = .ok (.iconst 2, 1) := by decide +kernel
theorem d_X8_up_18 : decode mi_X8_up.2.1 18 = .ok (.idiv, 1) := by decide +kernel
theorem d_X8_up_19 : decode mi_X8_up.2.1 19 = .ok (.iconst 1, 1) := by decide +kernel
theorem d_X8_up_20 : decode mi_X8_up.2.1 20 = .ok (.iadd, 1) := by decide +kernel
theorem d_X8_up_21 : decode mi_X8_up.2.1 21 = .ok (.goto 6, 3) := by decide +kernel
theorem d_X8_up_24 : decode mi_X8_up.2.1 24 = .ok (.iload_n 0, 1) := by decide +kernel
theorem d_X8_up_25 : decode mi_X8_up.2.1 25 = .ok (.iconst 2, 1) := by decide +kernel
theorem d_X8_up_26 : decode mi_X8_up.2.1 26 = .ok (.idiv, 1) := by decide +kernel
theorem d_X8_up_27 : decode mi_X8_up.2.1 27 = .ok (.ireturn, 1) := by decide +kernel
def f_X8_up (v0 : Int32) (σ : SS) : Option (Int32 × SS) := if (v0 - v0 / (2 : Int32) * (2 : Int32)) = 0 then (some ((v0 / (2 : Int32)), σ)) else (if v0 ≤ 0 then (some ((v0 / (2 : Int32)), σ)) else (some (((v0 / (2 : Int32)) + (1 : Int32)), σ)))
set_option maxRecDepth 20000 in
theorem t_X8_up {d : Nat} {b : Nat × Nat} {v0 : Int32} {σ : SS} {r : Int32} {σ' : SS} (h : f_X8_up v0 σ = some (r, σ')) : MM d b mi_X8_up [vI v0] σ (some (vI r), σ') := by
  refine MM.of (lv := [some (vI v0)]) (by decide +kernel) rfl rfl (fun X Y => ?_)
  rw [f_X8_up] at h
  refine r_iload_n (pc' := 1) d_X8_up_0 rfl rfl rfl ?_
  refine r_iconst (pc' := 2) d_X8_up_1 ci_2 rfl ?_
  refine r_irem (pc' := 3) d_X8_up_2 (by decide) rfl ?_
  refine r_if_ne (pcT := 12) (pc' := 6) d_X8_up_3 rfl rfl h (fun _ h => ?_) (fun _ h => ?_)
  · refine r_iload_n (pc' := 7) d_X8_up_6 rfl rfl rfl ?_
    refine r_iconst (pc' := 8) d_X8_up_7 ci_2 rfl ?_
    refine r_idiv (pc' := 9) d_X8_up_8 (by decide) rfl ?_
    refine r_goto (pc' := 27) d_X8_up_9 rfl ?_
    exact r_iret d_X8_up_27 rfl h
  · refine r_iload_n (pc' := 13) d_X8_up_12 rfl rfl rfl ?_
    refine r_if_le (pcT := 24) (pc' := 16) d_X8_up_13 rfl rfl h (fun _ h => ?_) (fun _ h => ?_)
    · refine r_iload_n (pc' := 25) d_X8_up_24 rfl rfl rfl ?_
      refine r_iconst (pc' := 26) d_X8_up_25 ci_2 rfl ?_
      refine r_idiv (pc' := 27) d_X8_up_26 (by decide) rfl ?_
      exact r_iret d_X8_up_27 rfl h
    · refine r_iload_n (pc' := 17) d_X8_up_16 rfl rfl rfl ?_
      refine r_iconst (pc' := 18) d_X8_up_17 ci_2 rfl ?_
      refine r_idiv (pc' := 19) d_X8_up_18 (by decide) rfl ?_
      refine r_iconst (pc' := 20) d_X8_up_19 ci_1 rfl ?_
      refine r_iadd (pc' := 21) d_X8_up_20 rfl ?_
      refine r_goto (pc' := 27) d_X8_up_21 rfl ?_
      exact r_iret d_X8_up_27 rfl h
/-! OctagonYardModel.keeps(I)V -/
def mi_X8_keeps : MI := (yX8_keeps, cX8_keeps, 3, none)
theorem d_X8_keeps_0 : decode mi_X8_keeps.2.1 0 = .ok (.aload_n 0, 1) := by decide +kernel
theorem d_X8_keeps_1 : decode mi_X8_keeps.2.1 1 = .ok (.invokevirtual 154, 3) := by decide +kernel
theorem d_X8_keeps_4 : decode mi_X8_keeps.2.1 4 = .ok (.iconst 0, 1) := by decide +kernel
theorem d_X8_keeps_5 : decode mi_X8_keeps.2.1 5 = .ok (.istore_n 2, 1) := by decide +kernel
theorem d_X8_keeps_6 : decode mi_X8_keeps.2.1 6 = .ok (.iload_n 2, 1) := by decide +kernel
theorem d_X8_keeps_7 : decode mi_X8_keeps.2.1 7 = .ok (.bipush 8, 2) := by decide +kernel
theorem d_X8_keeps_9 : decode mi_X8_keeps.2.1 9 = .ok (.if_icmp .ge 28, 3) := by decide +kernel
theorem d_X8_keeps_12 : decode mi_X8_keeps.2.1 12 = .ok (.aload_n 0, 1) := by decide +kernel
theorem d_X8_keeps_13 : decode mi_X8_keeps.2.1 13 = .ok (.getfield 32, 3) := by decide +kernel
theorem d_X8_keeps_16 : decode mi_X8_keeps.2.1 16 = .ok (.bipush 8, 2) := by decide +kernel
theorem d_X8_keeps_18 : decode mi_X8_keeps.2.1 18 = .ok (.iload_n 1, 1) := by decide +kernel
theorem d_X8_keeps_19 : decode mi_X8_keeps.2.1 19 = .ok (.imul, 1) := by decide +kernel
theorem d_X8_keeps_20 : decode mi_X8_keeps.2.1 20 = .ok (.iload_n 2, 1) := by decide +kernel
theorem d_X8_keeps_21 : decode mi_X8_keeps.2.1 21 = .ok (.iadd, 1) := by decide +kernel
theorem d_X8_keeps_22 : decode mi_X8_keeps.2.1 22 = .ok (.aload_n 0, 1) := by decide +kernel
theorem d_X8_keeps_23 : decode mi_X8_keeps.2.1 23 = .ok (.iload_n 2, 1) := by decide +kernel
theorem d_X8_keeps_24 : decode mi_X8_keeps.2.1 24 = .ok (.invokevirtual 167, 3) := by decide +kernel
theorem d_X8_keeps_27 : decode mi_X8_keeps.2.1 27 = .ok (.invokestatic 171, 3) := by decide +kernel
theorem d_X8_keeps_30 : decode mi_X8_keeps.2.1 30 = .ok (.iastore, 1) := by decide +kernel
theorem d_X8_keeps_31 : decode mi_X8_keeps.2.1 31 = .ok (.iinc 2 1, 3) := by decide +kernel
theorem d_X8_keeps_34 : decode mi_X8_keeps.2.1 34 = .ok (.goto (-28), 3) := by decide +kernel
theorem d_X8_keeps_37 : decode mi_X8_keeps.2.1 37 = .ok (.return_, 1) := by decide +kernel
theorem fl_X8_32 : FL RX8 32 8 49 8 := ⟨RX8, TX8, rfl, by decide, rfl, by decide +kernel, in_8⟩
theorem cw_X8_167 : CV RX8 167 mi_X8_most 1 := by unfold CV; decide +kernel
theorem cw_X8_171 : CT RX8 171 mi_X8_up 1 := by unfold CT; decide +kernel
def f_X8_keeps_6 : Nat → Int32 → Int32 → SS → Option (Unit × SS)
  | 0, _, _, _ => none
  | n + 1, v1, v2, σ => if (8 : Int32) ≤ v2 then (some ((), σ)) else (cal (f_X8_most v2 σ) (fun x2 s1 => cal (f_X8_up x2 s1) (fun x4 s3 => chk (inr (((8 : Int32) * v1) + v2) 480) (lt_ (up s3 48 0 (ix (((8 : Int32) * v1) + v2)) x4) (fun s5 => lt_ (v2 + (1 : Int32)) (fun x6 => f_X8_keeps_6 n v1 x6 s5))))))
set_option maxRecDepth 20000 in
theorem t_X8_keeps_6 {d : Nat} {X : MX} {Y : MY} {b : Nat × Nat} {r : Unit} {σ' : SS} : ∀ (n : Nat) (v1 : Int32) (v2 : Int32) (σ : SS), f_X8_keeps_6 n v1 v2 σ = some (r, σ') → WM (d + 3) X Y b mi_X8_keeps 6 [some (vR 25 0), some (vI v1), some (vI v2)] [] σ (none, σ') := by
  intro n
  induction n with
  | zero => intro _ _ σ h; cases h
  | succ n ih =>
    intro v1 v2 σ h
    rw [f_X8_keeps_6] at h
    refine r_iload_n (pc' := 7) d_X8_keeps_6 rfl rfl rfl ?_
    refine r_bipush (pc' := 9) d_X8_keeps_7 cb_8 rfl ?_
    refine r_icmp_ge (pcT := 37) (pc' := 12) d_X8_keeps_9 rfl rfl h (fun _ h => ?_) (fun _ h => ?_)
    · exact r_vret d_X8_keeps_37 rfl h
    · refine r_aload_n (pc' := 13) d_X8_keeps_12 rfl rfl rfl ?_
      refine r_get (v := vR 48 _) (pc' := 16) fl_X8_32 d_X8_keeps_13 rfl rfl (fun g => Or.inl ⟨rfl, g.2⟩) rfl ?_
      refine r_bipush (pc' := 18) d_X8_keeps_16 cb_8 rfl ?_
      refine r_iload_n (pc' := 19) d_X8_keeps_18 rfl rfl rfl ?_
      refine r_imul (pc' := 20) d_X8_keeps_19 rfl ?_
      refine r_iload_n (pc' := 21) d_X8_keeps_20 rfl rfl rfl ?_
      refine r_iadd (pc' := 22) d_X8_keeps_21 rfl ?_
      refine r_aload_n (pc' := 23) d_X8_keeps_22 rfl rfl rfl ?_
      refine r_iload_n (pc' := 24) d_X8_keeps_23 rfl rfl rfl ?_
      refine v1_i (mc := mi_X8_most) (bc := (0, 0)) (b' := _) (pc' := 27) cw_X8_167 d_X8_keeps_24 rfl rfl rfl (Nat.zero_add _).symm (Nat.zero_add _).symm rfl h (fun _ _ e => t_X8_most e) (fun x2 s1 h => ?_)
      refine s1_i (mc := mi_X8_up) (bc := (0, 0)) (b' := _) (pc' := 30) cw_X8_171 d_X8_keeps_27 rfl (Nat.zero_add _).symm (Nat.zero_add _).symm rfl h (fun _ _ e => t_X8_up e) (fun x4 s3 h => ?_)
      refine l_iastore (pc' := 31) d_X8_keeps_30 rfl (fun _ => rfl) (by decide) (by decide) (fun _ => rfl) rfl h (fun s5 h => ?_)
      refine l_iinc (pc' := 34) d_X8_keeps_31 rfl ci_1 rfl rfl rfl h (fun x6 h => ?_)
      refine r_goto (pc' := 6) d_X8_keeps_34 rfl ?_
      exact WM.drop [] rfl (ih _ _ _ h)
def f_X8_keeps (v1 : Int32) (σ : SS) : Option (Unit × SS) := cal (f_X8_findPoints  σ) (fun _ s1 => f_X8_keeps_6 FU v1 (0 : Int32) s1)
set_option maxRecDepth 20000 in
theorem t_X8_keeps {d : Nat} {b : Nat × Nat} {v1 : Int32} {σ : SS} {r : Unit} {σ' : SS} (h : f_X8_keeps v1 σ = some (r, σ')) : MM (d + 3) b mi_X8_keeps [vR 25 0, vI v1] σ (none, σ') := by
  refine MM.of (lv := [some (vR 25 0), some (vI v1), none]) (by decide +kernel) rfl rfl (fun X Y => ?_)
  rw [f_X8_keeps] at h
  refine r_aload_n (pc' := 1) d_X8_keeps_0 rfl rfl rfl ?_
  refine v0_v (mc := mi_X8_findPoints) (bc := (0, 0)) (b' := _) (pc' := 4) cw_X8_154 d_X8_keeps_1 rfl rfl rfl (Nat.zero_add _).symm (Nat.zero_add _).symm rfl h (fun _ _ e => t_X8_findPoints e) (fun _ s1 h => ?_)
  refine r_iconst (pc' := 5) d_X8_keeps_4 ci_0 rfl ?_
  refine r_istore_n (pc' := 6) d_X8_keeps_5 rfl rfl rfl rfl ?_
  exact WM.drop [] rfl (t_X8_keeps_6 _ _ _ _ h)
/-! OctagonYardModel.takes(I)V -/
def mi_X8_takes : MI := (yX8_takes, cX8_takes, 3, none)
theorem d_X8_takes_0 : decode mi_X8_takes.2.1 0 = .ok (.iconst 0, 1) := by decide +kernel
theorem d_X8_takes_1 : decode mi_X8_takes.2.1 1 = .ok (.istore_n 2, 1) := by decide +kernel
theorem d_X8_takes_2 : decode mi_X8_takes.2.1 2 = .ok (.iload_n 2, 1) := by decide +kernel
theorem d_X8_takes_3 : decode mi_X8_takes.2.1 3 = .ok (.bipush 8, 2) := by decide +kernel
theorem d_X8_takes_5 : decode mi_X8_takes.2.1 5 = .ok (.if_icmp .ge 26, 3) := by decide +kernel
theorem d_X8_takes_8 : decode mi_X8_takes.2.1 8 = .ok (.aload_n 0, 1) := by decide +kernel
theorem d_X8_takes_9 : decode mi_X8_takes.2.1 9 = .ok (.getfield 47, 3) := by decide +kernel
theorem d_X8_takes_12 : decode mi_X8_takes.2.1 12 = .ok (.iload_n 2, 1) := by decide +kernel
theorem d_X8_takes_13 : decode mi_X8_takes.2.1 13 = .ok (.aload_n 0, 1) := by decide +kernel
theorem d_X8_takes_14 : decode mi_X8_takes.2.1 14 = .ok (.getfield 32, 3) := by decide +kernel
theorem d_X8_takes_17 : decode mi_X8_takes.2.1 17 = .ok (.bipush 8, 2) := by decide +kernel
theorem d_X8_takes_19 : decode mi_X8_takes.2.1 19 = .ok (.iload_n 1, 1) := by decide +kernel
theorem d_X8_takes_20 : decode mi_X8_takes.2.1 20 = .ok (.imul, 1) := by decide +kernel
theorem d_X8_takes_21 : decode mi_X8_takes.2.1 21 = .ok (.iload_n 2, 1) := by decide +kernel
theorem d_X8_takes_22 : decode mi_X8_takes.2.1 22 = .ok (.iadd, 1) := by decide +kernel
theorem d_X8_takes_23 : decode mi_X8_takes.2.1 23 = .ok (.iaload, 1) := by decide +kernel
theorem d_X8_takes_24 : decode mi_X8_takes.2.1 24 = .ok (.iastore, 1) := by decide +kernel
theorem d_X8_takes_25 : decode mi_X8_takes.2.1 25 = .ok (.iinc 2 1, 3) := by decide +kernel
theorem d_X8_takes_28 : decode mi_X8_takes.2.1 28 = .ok (.goto (-26), 3) := by decide +kernel
theorem d_X8_takes_31 : decode mi_X8_takes.2.1 31 = .ok (.aload_n 0, 1) := by decide +kernel
theorem d_X8_takes_32 : decode mi_X8_takes.2.1 32 = .ok (.invokevirtual 174, 3) := by decide +kernel
theorem d_X8_takes_35 : decode mi_X8_takes.2.1 35 = .ok (.return_, 1) := by decide +kernel
theorem cw_X8_174 : CV RX8 174 mi_X8_findSides 0 := by unfold CV; decide +kernel
def f_X8_takes_31 (σ : SS) : Option (Unit × SS) := cal (f_X8_findSides  σ) (fun _ s1 => some ((), s1))
set_option maxRecDepth 20000 in
theorem t_X8_takes_31 {d : Nat} {X : MX} {Y : MY} {b : Nat × Nat} {r : Unit} {σ' : SS} {σ : SS} (h : f_X8_takes_31 σ = some (r, σ')) : WM (d + 4) X Y b mi_X8_takes 31 [some (vR 25 0), none, none] [] σ (none, σ') := by
  rw [f_X8_takes_31] at h
  refine r_aload_n (pc' := 32) d_X8_takes_31 rfl rfl rfl ?_
  refine v0_v (mc := mi_X8_findSides) (bc := (0, 0)) (b' := _) (pc' := 35) cw_X8_174 d_X8_takes_32 rfl rfl rfl (Nat.zero_add _).symm (Nat.zero_add _).symm rfl h (fun _ _ e => t_X8_findSides e) (fun _ s1 h => ?_)
  exact r_vret d_X8_takes_35 rfl h
def f_X8_takes_2 : Nat → Int32 → Int32 → SS → Option (Unit × SS)
  | 0, _, _, _ => none
  | n + 1, v1, v2, σ => if (8 : Int32) ≤ v2 then (f_X8_takes_31  σ) else (chk (inr (((8 : Int32) * v1) + v2) 480) (chk (inr v2 8) (lt_ (up σ 53 0 (ix v2) (σ.1 48 0 (ix (((8 : Int32) * v1) + v2)))) (fun s1 => lt_ (v2 + (1 : Int32)) (fun x2 => f_X8_takes_2 n v1 x2 s1)))))
set_option maxRecDepth 20000 in
theorem t_X8_takes_2 {d : Nat} {X : MX} {Y : MY} {b : Nat × Nat} {r : Unit} {σ' : SS} : ∀ (n : Nat) (v1 : Int32) (v2 : Int32) (σ : SS), f_X8_takes_2 n v1 v2 σ = some (r, σ') → WM (d + 4) X Y b mi_X8_takes 2 [some (vR 25 0), some (vI v1), some (vI v2)] [] σ (none, σ') := by
  intro n
  induction n with
  | zero => intro _ _ σ h; cases h
  | succ n ih =>
    intro v1 v2 σ h
    rw [f_X8_takes_2] at h
    refine r_iload_n (pc' := 3) d_X8_takes_2 rfl rfl rfl ?_
    refine r_bipush (pc' := 5) d_X8_takes_3 cb_8 rfl ?_
    refine r_icmp_ge (pcT := 31) (pc' := 8) d_X8_takes_5 rfl rfl h (fun _ h => ?_) (fun _ h => ?_)
    · exact WM.drop [1, 2] rfl (t_X8_takes_31 h)
    · refine r_aload_n (pc' := 9) d_X8_takes_8 rfl rfl rfl ?_
      refine r_get (v := vR 53 _) (pc' := 12) fl_X8_47 d_X8_takes_9 rfl rfl (fun g => Or.inl ⟨rfl, g.2⟩) rfl ?_
      refine r_iload_n (pc' := 13) d_X8_takes_12 rfl rfl rfl ?_
      refine r_aload_n (pc' := 14) d_X8_takes_13 rfl rfl rfl ?_
      refine r_get (v := vR 48 _) (pc' := 17) fl_X8_32 d_X8_takes_14 rfl rfl (fun g => Or.inl ⟨rfl, g.2⟩) rfl ?_
      refine r_bipush (pc' := 19) d_X8_takes_17 cb_8 rfl ?_
      refine r_iload_n (pc' := 20) d_X8_takes_19 rfl rfl rfl ?_
      refine r_imul (pc' := 21) d_X8_takes_20 rfl ?_
      refine r_iload_n (pc' := 22) d_X8_takes_21 rfl rfl rfl ?_
      refine r_iadd (pc' := 23) d_X8_takes_22 rfl ?_
      refine r_iaload (pc' := 24) d_X8_takes_23 rfl (fun _ => rfl) rfl h (fun h => ?_)
      refine l_iastore (pc' := 25) d_X8_takes_24 rfl (fun _ => rfl) (by decide) (by decide) (fun _ => rfl) rfl h (fun s1 h => ?_)
      refine l_iinc (pc' := 28) d_X8_takes_25 rfl ci_1 rfl rfl rfl h (fun x2 h => ?_)
      refine r_goto (pc' := 2) d_X8_takes_28 rfl ?_
      exact WM.drop [] rfl (ih _ _ _ h)
def f_X8_takes (v1 : Int32) (σ : SS) : Option (Unit × SS) := f_X8_takes_2 FU v1 (0 : Int32) σ
set_option maxRecDepth 20000 in
theorem t_X8_takes {d : Nat} {b : Nat × Nat} {v1 : Int32} {σ : SS} {r : Unit} {σ' : SS} (h : f_X8_takes v1 σ = some (r, σ')) : MM (d + 4) b mi_X8_takes [vR 25 0, vI v1] σ (none, σ') := by
  refine MM.of (lv := [some (vR 25 0), some (vI v1), none]) (by decide +kernel) rfl rfl (fun X Y => ?_)
  rw [f_X8_takes] at h
  refine r_iconst (pc' := 1) d_X8_takes_0 ci_0 rfl ?_
  refine r_istore_n (pc' := 2) d_X8_takes_1 rfl rfl rfl rfl ?_
  exact WM.drop [] rfl (t_X8_takes_2 _ _ _ _ h)
/-! OctagonYardModel.keep(II)V -/
def mi_X8_keep : MI := (yX8_keep, cX8_keep, 4, none)
theorem d_X8_keep_0 : decode mi_X8_keep.2.1 0 = .ok (.aload_n 0, 1) := by decide +kernel
theorem d_X8_keep_1 : decode mi_X8_keep.2.1 1 = .ok (.getfield 177, 3) := by decide +kernel
theorem d_X8_keep_4 : decode mi_X8_keep.2.1 4 = .ok (.bipush 8, 2) := by decide +kernel
theorem d_X8_keep_6 : decode mi_X8_keep.2.1 6 = .ok (.if_icmp .ne 85, 3) := by decide +kernel
theorem d_X8_keep_9 : decode mi_X8_keep.2.1 9 = .ok (.iconst 1, 1) := by decide +kernel
theorem d_X8_keep_10 : decode mi_X8_keep.2.1 10 = .ok (.istore_n 3, 1) := by decide +kernel
theorem d_X8_keep_11 : decode mi_X8_keep.2.1 11 = .ok (.iload_n 3, 1) := by decide +kernel
theorem d_X8_keep_12 : decode mi_X8_keep.2.1 12 = .ok (.bipush 8, 2) := by decide +kernel
theorem d_X8_keep_14 : decode mi_X8_keep.2.1 14 = .ok (.if_icmp .ge 37, 3) := by decide +kernel
theorem d_X8_keep_17 : decode mi_X8_keep.2.1 17 = .ok (.aload_n 0, 1) := by decide +kernel
theorem d_X8_keep_18 : decode mi_X8_keep.2.1 18 = .ok (.getfield 71, 3) := by decide +kernel
theorem d_X8_keep_21 : decode mi_X8_keep.2.1 21 = .ok (.iload_n 3, 1) := by decide +kernel
theorem d_X8_keep_22 : decode mi_X8_keep.2.1 22 = .ok (.iconst 1, 1) := by decide +kernel
theorem d_X8_keep_23 : decode mi_X8_keep.2.1 23 = .ok (.isub, 1) := by decide +kernel
theorem d_X8_keep_24 : decode mi_X8_keep.2.1 24 = .ok (.aload_n 0, 1) := by decide +kernel
theorem d_X8_keep_25 : decode mi_X8_keep.2.1 25 = .ok (.getfield 71, 3) := by decide +kernel
theorem d_X8_keep_28 : decode mi_X8_keep.2.1 28 = .ok (.iload_n 3, 1) := by decide +kernel
theorem d_X8_keep_29 : decode mi_X8_keep.2.1 29 = .ok (.iaload, 1) := by decide +kernel
theorem d_X8_keep_30 : decode mi_X8_keep.2.1 30 = .ok (.iastore, 1) := by decide +kernel
theorem d_X8_keep_31 : decode mi_X8_keep.2.1 31 = .ok (.aload_n 0, 1) := by decide +kernel
theorem d_X8_keep_32 : decode mi_X8_keep.2.1 32 = .ok (.getfield 74, 3) := by decide +kernel
theorem d_X8_keep_35 : decode mi_X8_keep.2.1 35 = .ok (.iload_n 3, 1) := by decide +kernel
theorem d_X8_keep_36 : decode mi_X8_keep.2.1 36 = .ok (.iconst 1, 1) := by decide +kernel
theorem d_X8_keep_37 : decode mi_X8_keep.2.1 37 = .ok (.isub, 1) := by decide +kernel
theorem d_X8_keep_38 : decode mi_X8_keep.2.1 38 = .ok (.aload_n 0, 1) := by decide +kernel
theorem d_X8_keep_39 : decode mi_X8_keep.2.1 39 = .ok (.getfield 74, 3) := by decide +kernel
theorem d_X8_keep_42 : decode mi_X8_keep.2.1 42 = .ok (.iload_n 3, 1) := by decide +kernel
theorem d_X8_keep_43 : decode mi_X8_keep.2.1 43 = .ok (.iaload, 1) := by decide +kernel
theorem d_X8_keep_44 : decode mi_X8_keep.2.1 44 = .ok (.iastore, 1) := by decide +kernel
theorem d_X8_keep_45 : decode mi_X8_keep.2.1 45 = .ok (.iinc 3 1, 3) := by decide +kernel
theorem d_X8_keep_48 : decode mi_X8_keep.2.1 48 = .ok (.goto (-37), 3) := by decide +kernel
theorem d_X8_keep_51 : decode mi_X8_keep.2.1 51 = .ok (.bipush 8, 2) := by decide +kernel
theorem d_X8_keep_53 : decode mi_X8_keep.2.1 53 = .ok (.istore_n 3, 1) := by decide +kernel
theorem d_X8_keep_54 : decode mi_X8_keep.2.1 54 = .ok (.iload_n 3, 1) := by decide +kernel
theorem d_X8_keep_55 : decode mi_X8_keep.2.1 55 = .ok (.bipush 64, 2) := by decide +kernel
theorem d_X8_keep_57 : decode mi_X8_keep.2.1 57 = .ok (.if_icmp .ge 24, 3) := by decide +kernel
theorem d_X8_keep_60 : decode mi_X8_keep.2.1 60 = .ok (.aload_n 0, 1) := by decide +kernel
theorem d_X8_keep_61 : decode mi_X8_keep.2.1 61 = .ok (.getfield 77, 3) := by decide +kernel
theorem d_X8_keep_64 : decode mi_X8_keep.2.1 64 = .ok (.iload_n 3, 1) := by decide +kernel
theorem d_X8_keep_65 : decode mi_X8_keep.2.1 65 = .ok (.bipush 8, 2) := by decide +kernel
theorem d_X8_keep_67 : decode mi_X8_keep.2.1 67 = .ok (.isub, 1) := by decide +kernel
theorem d_X8_keep_68 : decode mi_X8_keep.2.1 68 = .ok (.aload_n 0, 1) := by decide +kernel
theorem d_X8_keep_69 : decode mi_X8_keep.2.1 69 = .ok (.getfield 77, 3) := by decide +kernel
theorem d_X8_keep_72 : decode mi_X8_keep.2.1 72 = .ok (.iload_n 3, 1) := by decide +kernel
theorem d_X8_keep_73 : decode mi_X8_keep.2.1 73 = .ok (.iaload, 1) := by decide +kernel
theorem d_X8_keep_74 : decode mi_X8_keep.2.1 74 = .ok (.iastore, 1) := by decide +kernel
theorem d_X8_keep_75 : decode mi_X8_keep.2.1 75 = .ok (.iinc 3 1, 3) := by decide +kernel
theorem d_X8_keep_78 : decode mi_X8_keep.2.1 78 = .ok (.goto (-24), 3) := by decide +kernel
theorem d_X8_keep_81 : decode mi_X8_keep.2.1 81 = .ok (.aload_n 0, 1) := by decide +kernel
theorem d_X8_keep_82 : decode mi_X8_keep.2.1 82 = .ok (.dup, 1) := by decide +kernel
theorem d_X8_keep_83 : decode mi_X8_keep.2.1 83 = .ok (.getfield 177, 3) := by decide +kernel
theorem d_X8_keep_86 : decode mi_X8_keep.2.1 86 = .ok (.iconst 1, 1) := by decide +kernel
theorem d_X8_keep_87 : decode mi_X8_keep.2.1 87 = .ok (.isub, 1) := by decide +kernel
theorem d_X8_keep_88 : decode mi_X8_keep.2.1 88 = .ok (.putfield 177, 3) := by decide +kernel
theorem d_X8_keep_91 : decode mi_X8_keep.2.1 91 = .ok (.aload_n 0, 1) := by decide +kernel
theorem d_X8_keep_92 : decode mi_X8_keep.2.1 92 = .ok (.getfield 71, 3) := by decide +kernel
theorem d_X8_keep_95 : decode mi_X8_keep.2.1 95 = .ok (.aload_n 0, 1) := by decide +kernel
theorem d_X8_keep_96 : decode mi_X8_keep.2.1 96 = .ok (.getfield 177, 3) := by decide +kernel
theorem d_X8_keep_99 : decode mi_X8_keep.2.1 99 = .ok (.iload_n 1, 1) := by decide +kernel
theorem d_X8_keep_100 : decode mi_X8_keep.2.1 100 = .ok (.iastore, 1) := by decide +kernel
theorem d_X8_keep_101 : decode mi_X8_keep.2.1 101 = .ok (.aload_n 0, 1) := by decide +kernel
theorem d_X8_keep_102 : decode mi_X8_keep.2.1 102 = .ok (.getfield 74, 3) := by decide +kernel
theorem d_X8_keep_105 : decode mi_X8_keep.2.1 105 = .ok (.aload_n 0, 1) := by decide +kernel
theorem d_X8_keep_106 : decode mi_X8_keep.2.1 106 = .ok (.getfield 177, 3) := by decide +kernel
theorem d_X8_keep_109 : decode mi_X8_keep.2.1 109 = .ok (.iload_n 2, 1) := by decide +kernel
theorem d_X8_keep_110 : decode mi_X8_keep.2.1 110 = .ok (.iastore, 1) := by decide +kernel
theorem d_X8_keep_111 : decode mi_X8_keep.2.1 111 = .ok (.iconst 0, 1) := by decide +kernel
theorem d_X8_keep_112 : decode mi_X8_keep.2.1 112 = .ok (.istore_n 3, 1) := by decide +kernel
theorem d_X8_keep_113 : decode mi_X8_keep.2.1 113 = .ok (.iload_n 3, 1) := by decide +kernel
theorem d_X8_keep_114 : decode mi_X8_keep.2.1 114 = .ok (.bipush 8, 2) := by decide +kernel
theorem d_X8_keep_116 : decode mi_X8_keep.2.1 116 = .ok (.if_icmp .ge 34, 3) := by decide +kernel
theorem d_X8_keep_119 : decode mi_X8_keep.2.1 119 = .ok (.aload_n 0, 1) := by decide +kernel
theorem d_X8_keep_120 : decode mi_X8_keep.2.1 120 = .ok (.getfield 77, 3) := by decide +kernel
theorem d_X8_keep_123 : decode mi_X8_keep.2.1 123 = .ok (.bipush 8, 2) := by decide +kernel
theorem d_X8_keep_125 : decode mi_X8_keep.2.1 125 = .ok (.aload_n 0, 1) := by decide +kernel
theorem d_X8_keep_126 : decode mi_X8_keep.2.1 126 = .ok (.getfield 177, 3) := by decide +kernel
theorem d_X8_keep_129 : decode mi_X8_keep.2.1 129 = .ok (.imul, 1) := by decide +kernel
theorem d_X8_keep_130 : decode mi_X8_keep.2.1 130 = .ok (.iload_n 3, 1) := by decide +kernel
theorem d_X8_keep_131 : decode mi_X8_keep.2.1 131 = .ok (.iadd, 1) := by decide +kernel
theorem d_X8_keep_132 : decode mi_X8_keep.2.1 132 = .ok (.aload_n 0, 1) := by decide +kernel
theorem d_X8_keep_133 : decode mi_X8_keep.2.1 133 = .ok (.getfield 32, 3) := by decide +kernel
theorem d_X8_keep_136 : decode mi_X8_keep.2.1 136 = .ok (.bipush 8, 2) := by decide +kernel
theorem d_X8_keep_138 : decode mi_X8_keep.2.1 138 = .ok (.iload_n 2, 1) := by decide +kernel
theorem d_X8_keep_139 : decode mi_X8_keep.2.1 139 = .ok (.imul, 1) := by decide +kernel
theorem d_X8_keep_140 : decode mi_X8_keep.2.1 140 = .ok (.iload_n 3, 1) := by decide +kernel
theorem d_X8_keep_141 : decode mi_X8_keep.2.1 141 = .ok (.iadd, 1) := by decide +kernel
theorem d_X8_keep_142 : decode mi_X8_keep.2.1 142 = .ok (.iaload, 1) := by decide +kernel
theorem d_X8_keep_143 : decode mi_X8_keep.2.1 143 = .ok (.iastore, 1) := by decide +kernel
theorem d_X8_keep_144 : decode mi_X8_keep.2.1 144 = .ok (.iinc 3 1, 3) := by decide +kernel
theorem d_X8_keep_147 : decode mi_X8_keep.2.1 147 = .ok (.goto (-34), 3) := by decide +kernel
theorem d_X8_keep_150 : decode mi_X8_keep.2.1 150 = .ok (.aload_n 0, 1) := by decide +kernel
theorem d_X8_keep_151 : decode mi_X8_keep.2.1 151 = .ok (.dup, 1) := by decide +kernel
theorem d_X8_keep_152 : decode mi_X8_keep.2.1 152 = .ok (.getfield 177, 3) := by decide +kernel
theorem d_X8_keep_155 : decode mi_X8_keep.2.1 155 = .ok (.iconst 1, 1) := by decide +kernel
theorem d_X8_keep_156 : decode mi_X8_keep.2.1 156 = .ok (.iadd, 1) := by decide +kernel
theorem d_X8_keep_157 : decode mi_X8_keep.2.1 157 = .ok (.putfield 177, 3) := by decide +kernel
theorem d_X8_keep_160 : decode mi_X8_keep.2.1 160 = .ok (.return_, 1) := by decide +kernel
theorem cb_64 : (Int8.ofInt (64)).toInt32 = 64 := by decide
theorem fl_X8_71 : FL RX8 71 8 49 24 := ⟨RX8, TX8, rfl, by decide, rfl, by decide +kernel, in_8⟩
theorem fl_X8_74 : FL RX8 74 8 49 25 := ⟨RX8, TX8, rfl, by decide, rfl, by decide +kernel, in_8⟩
theorem fl_X8_77 : FL RX8 77 8 49 26 := ⟨RX8, TX8, rfl, by decide, rfl, by decide +kernel, in_8⟩
theorem fl_X8_177 : FL RX8 177 8 49 23 := ⟨RX8, TX8, rfl, by decide, rfl, by decide +kernel, in_8⟩
theorem fw_8_23 : FW 8 49 23 .int := ⟨RX8, TX8, tyX8, rfl, rfl, by decide +kernel, tyX8_ok, nmX8⟩
def f_X8_keep_150 (σ : SS) : Option (Unit × SS) := lt_ (up σ 25 0 23 ((σ.1 25 0 23) + (1 : Int32))) (fun s1 => some ((), s1))
set_option maxRecDepth 20000 in
theorem t_X8_keep_150 {d : Nat} {X : MX} {Y : MY} {b : Nat × Nat} {r : Unit} {σ' : SS} {σ : SS} (h : f_X8_keep_150 σ = some (r, σ')) : WM d X Y b mi_X8_keep 150 [some (vR 25 0), none, none, none] [] σ (none, σ') := by
  rw [f_X8_keep_150] at h
  refine r_aload_n (pc' := 151) d_X8_keep_150 rfl rfl rfl ?_
  refine r_dup (pc' := 152) d_X8_keep_151 rfl rfl ?_
  refine r_get (v := vI _) (pc' := 155) fl_X8_177 d_X8_keep_152 rfl rfl (fun _ => trivial) rfl ?_
  refine r_iconst (pc' := 156) d_X8_keep_155 ci_1 rfl ?_
  refine r_iadd (pc' := 157) d_X8_keep_156 rfl ?_
  refine l_put (k := 23) (pc' := 160) fl_X8_177 fw_8_23 rfl rfl d_X8_keep_157 rfl (by decide) (by decide) rfl rfl h (fun s1 h => ?_)
  exact r_vret d_X8_keep_160 rfl h
def f_X8_keep_113 : Nat → Int32 → Int32 → SS → Option (Unit × SS)
  | 0, _, _, _ => none
  | n + 1, v2, v3, σ => if (8 : Int32) ≤ v3 then (f_X8_keep_150  σ) else (chk (inr (((8 : Int32) * v2) + v3) 480) (chk (inr (((8 : Int32) * (σ.1 25 0 23)) + v3) 64) (lt_ (up σ 66 0 (ix (((8 : Int32) * (σ.1 25 0 23)) + v3)) (σ.1 48 0 (ix (((8 : Int32) * v2) + v3)))) (fun s1 => lt_ (v3 + (1 : Int32)) (fun x2 => f_X8_keep_113 n v2 x2 s1)))))
set_option maxRecDepth 20000 in
theorem t_X8_keep_113 {d : Nat} {X : MX} {Y : MY} {b : Nat × Nat} {r : Unit} {σ' : SS} : ∀ (n : Nat) (v2 : Int32) (v3 : Int32) (σ : SS), f_X8_keep_113 n v2 v3 σ = some (r, σ') → WM d X Y b mi_X8_keep 113 [some (vR 25 0), none, some (vI v2), some (vI v3)] [] σ (none, σ') := by
  intro n
  induction n with
  | zero => intro _ _ σ h; cases h
  | succ n ih =>
    intro v2 v3 σ h
    rw [f_X8_keep_113] at h
    refine r_iload_n (pc' := 114) d_X8_keep_113 rfl rfl rfl ?_
    refine r_bipush (pc' := 116) d_X8_keep_114 cb_8 rfl ?_
    refine r_icmp_ge (pcT := 150) (pc' := 119) d_X8_keep_116 rfl rfl h (fun _ h => ?_) (fun _ h => ?_)
    · exact WM.drop [2, 3] rfl (t_X8_keep_150 h)
    · refine r_aload_n (pc' := 120) d_X8_keep_119 rfl rfl rfl ?_
      refine r_get (v := vR 66 _) (pc' := 123) fl_X8_77 d_X8_keep_120 rfl rfl (fun g => Or.inl ⟨rfl, g.2⟩) rfl ?_
      refine r_bipush (pc' := 125) d_X8_keep_123 cb_8 rfl ?_
      refine r_aload_n (pc' := 126) d_X8_keep_125 rfl rfl rfl ?_
      refine r_get (v := vI _) (pc' := 129) fl_X8_177 d_X8_keep_126 rfl rfl (fun _ => trivial) rfl ?_
      refine r_imul (pc' := 130) d_X8_keep_129 rfl ?_
      refine r_iload_n (pc' := 131) d_X8_keep_130 rfl rfl rfl ?_
      refine r_iadd (pc' := 132) d_X8_keep_131 rfl ?_
      refine r_aload_n (pc' := 133) d_X8_keep_132 rfl rfl rfl ?_
      refine r_get (v := vR 48 _) (pc' := 136) fl_X8_32 d_X8_keep_133 rfl rfl (fun g => Or.inl ⟨rfl, g.2⟩) rfl ?_
      refine r_bipush (pc' := 138) d_X8_keep_136 cb_8 rfl ?_
      refine r_iload_n (pc' := 139) d_X8_keep_138 rfl rfl rfl ?_
      refine r_imul (pc' := 140) d_X8_keep_139 rfl ?_
      refine r_iload_n (pc' := 141) d_X8_keep_140 rfl rfl rfl ?_
      refine r_iadd (pc' := 142) d_X8_keep_141 rfl ?_
      refine r_iaload (pc' := 143) d_X8_keep_142 rfl (fun _ => rfl) rfl h (fun h => ?_)
      refine l_iastore (pc' := 144) d_X8_keep_143 rfl (fun _ => rfl) (by decide) (by decide) (fun _ => rfl) rfl h (fun s1 h => ?_)
      refine l_iinc (pc' := 147) d_X8_keep_144 rfl ci_1 rfl rfl rfl h (fun x2 h => ?_)
      refine r_goto (pc' := 113) d_X8_keep_147 rfl ?_
      exact WM.drop [] rfl (ih _ _ _ h)
def f_X8_keep_91 (v1 : Int32) (v2 : Int32) (σ : SS) : Option (Unit × SS) := chk (inr (σ.1 25 0 23) 8) (lt_ (up σ 64 0 (ix (σ.1 25 0 23)) v1) (fun s1 => chk (inr (s1.1 25 0 23) 8) (lt_ (up s1 65 0 (ix (s1.1 25 0 23)) v2) (fun s2 => f_X8_keep_113 FU v2 (0 : Int32) s2))))
set_option maxRecDepth 20000 in
theorem t_X8_keep_91 {d : Nat} {X : MX} {Y : MY} {b : Nat × Nat} {r : Unit} {σ' : SS} {v1 : Int32} {v2 : Int32} {σ : SS} (h : f_X8_keep_91 v1 v2 σ = some (r, σ')) : WM d X Y b mi_X8_keep 91 [some (vR 25 0), some (vI v1), some (vI v2), none] [] σ (none, σ') := by
  rw [f_X8_keep_91] at h
  refine r_aload_n (pc' := 92) d_X8_keep_91 rfl rfl rfl ?_
  refine r_get (v := vR 64 _) (pc' := 95) fl_X8_71 d_X8_keep_92 rfl rfl (fun g => Or.inl ⟨rfl, g.2⟩) rfl ?_
  refine r_aload_n (pc' := 96) d_X8_keep_95 rfl rfl rfl ?_
  refine r_get (v := vI _) (pc' := 99) fl_X8_177 d_X8_keep_96 rfl rfl (fun _ => trivial) rfl ?_
  refine r_iload_n (pc' := 100) d_X8_keep_99 rfl rfl rfl ?_
  refine l_iastore (pc' := 101) d_X8_keep_100 rfl (fun _ => rfl) (by decide) (by decide) (fun _ => rfl) rfl h (fun s1 h => ?_)
  refine r_aload_n (pc' := 102) d_X8_keep_101 rfl rfl rfl ?_
  refine r_get (v := vR 65 _) (pc' := 105) fl_X8_74 d_X8_keep_102 rfl rfl (fun g => Or.inl ⟨rfl, g.2⟩) rfl ?_
  refine r_aload_n (pc' := 106) d_X8_keep_105 rfl rfl rfl ?_
  refine r_get (v := vI _) (pc' := 109) fl_X8_177 d_X8_keep_106 rfl rfl (fun _ => trivial) rfl ?_
  refine r_iload_n (pc' := 110) d_X8_keep_109 rfl rfl rfl ?_
  refine l_iastore (pc' := 111) d_X8_keep_110 rfl (fun _ => rfl) (by decide) (by decide) (fun _ => rfl) rfl h (fun s2 h => ?_)
  refine r_iconst (pc' := 112) d_X8_keep_111 ci_0 rfl ?_
  refine r_istore_n (pc' := 113) d_X8_keep_112 rfl rfl rfl rfl ?_
  exact WM.drop [1] rfl (t_X8_keep_113 _ _ _ _ h)
def f_X8_keep_81 (v1 : Int32) (v2 : Int32) (σ : SS) : Option (Unit × SS) := lt_ (up σ 25 0 23 ((σ.1 25 0 23) - (1 : Int32))) (fun s1 => f_X8_keep_91 v1 v2 s1)
set_option maxRecDepth 20000 in
theorem t_X8_keep_81 {d : Nat} {X : MX} {Y : MY} {b : Nat × Nat} {r : Unit} {σ' : SS} {v1 : Int32} {v2 : Int32} {σ : SS} (h : f_X8_keep_81 v1 v2 σ = some (r, σ')) : WM d X Y b mi_X8_keep 81 [some (vR 25 0), some (vI v1), some (vI v2), none] [] σ (none, σ') := by
  rw [f_X8_keep_81] at h
  refine r_aload_n (pc' := 82) d_X8_keep_81 rfl rfl rfl ?_
  refine r_dup (pc' := 83) d_X8_keep_82 rfl rfl ?_
  refine r_get (v := vI _) (pc' := 86) fl_X8_177 d_X8_keep_83 rfl rfl (fun _ => trivial) rfl ?_
  refine r_iconst (pc' := 87) d_X8_keep_86 ci_1 rfl ?_
  refine r_isub (pc' := 88) d_X8_keep_87 rfl ?_
  refine l_put (k := 23) (pc' := 91) fl_X8_177 fw_8_23 rfl rfl d_X8_keep_88 rfl (by decide) (by decide) rfl rfl h (fun s1 h => ?_)
  exact WM.drop [] rfl (t_X8_keep_91 h)
def f_X8_keep_54 : Nat → Int32 → Int32 → Int32 → SS → Option (Unit × SS)
  | 0, _, _, _, _ => none
  | n + 1, v1, v2, v3, σ => if (64 : Int32) ≤ v3 then (f_X8_keep_81 v1 v2 σ) else (chk (inr v3 64) (chk (inr (v3 - (8 : Int32)) 64) (lt_ (up σ 66 0 (ix (v3 - (8 : Int32))) (σ.1 66 0 (ix v3))) (fun s1 => lt_ (v3 + (1 : Int32)) (fun x2 => f_X8_keep_54 n v1 v2 x2 s1)))))
set_option maxRecDepth 20000 in
theorem t_X8_keep_54 {d : Nat} {X : MX} {Y : MY} {b : Nat × Nat} {r : Unit} {σ' : SS} : ∀ (n : Nat) (v1 : Int32) (v2 : Int32) (v3 : Int32) (σ : SS), f_X8_keep_54 n v1 v2 v3 σ = some (r, σ') → WM d X Y b mi_X8_keep 54 [some (vR 25 0), some (vI v1), some (vI v2), some (vI v3)] [] σ (none, σ') := by
  intro n
  induction n with
  | zero => intro _ _ _ σ h; cases h
  | succ n ih =>
    intro v1 v2 v3 σ h
    rw [f_X8_keep_54] at h
    refine r_iload_n (pc' := 55) d_X8_keep_54 rfl rfl rfl ?_
    refine r_bipush (pc' := 57) d_X8_keep_55 cb_64 rfl ?_
    refine r_icmp_ge (pcT := 81) (pc' := 60) d_X8_keep_57 rfl rfl h (fun _ h => ?_) (fun _ h => ?_)
    · exact WM.drop [3] rfl (t_X8_keep_81 h)
    · refine r_aload_n (pc' := 61) d_X8_keep_60 rfl rfl rfl ?_
      refine r_get (v := vR 66 _) (pc' := 64) fl_X8_77 d_X8_keep_61 rfl rfl (fun g => Or.inl ⟨rfl, g.2⟩) rfl ?_
      refine r_iload_n (pc' := 65) d_X8_keep_64 rfl rfl rfl ?_
      refine r_bipush (pc' := 67) d_X8_keep_65 cb_8 rfl ?_
      refine r_isub (pc' := 68) d_X8_keep_67 rfl ?_
      refine r_aload_n (pc' := 69) d_X8_keep_68 rfl rfl rfl ?_
      refine r_get (v := vR 66 _) (pc' := 72) fl_X8_77 d_X8_keep_69 rfl rfl (fun g => Or.inl ⟨rfl, g.2⟩) rfl ?_
      refine r_iload_n (pc' := 73) d_X8_keep_72 rfl rfl rfl ?_
      refine r_iaload (pc' := 74) d_X8_keep_73 rfl (fun _ => rfl) rfl h (fun h => ?_)
      refine l_iastore (pc' := 75) d_X8_keep_74 rfl (fun _ => rfl) (by decide) (by decide) (fun _ => rfl) rfl h (fun s1 h => ?_)
      refine l_iinc (pc' := 78) d_X8_keep_75 rfl ci_1 rfl rfl rfl h (fun x2 h => ?_)
      refine r_goto (pc' := 54) d_X8_keep_78 rfl ?_
      exact WM.drop [] rfl (ih _ _ _ _ h)
def f_X8_keep_51 (v1 : Int32) (v2 : Int32) (σ : SS) : Option (Unit × SS) := f_X8_keep_54 FU v1 v2 (8 : Int32) σ
set_option maxRecDepth 20000 in
theorem t_X8_keep_51 {d : Nat} {X : MX} {Y : MY} {b : Nat × Nat} {r : Unit} {σ' : SS} {v1 : Int32} {v2 : Int32} {σ : SS} (h : f_X8_keep_51 v1 v2 σ = some (r, σ')) : WM d X Y b mi_X8_keep 51 [some (vR 25 0), some (vI v1), some (vI v2), none] [] σ (none, σ') := by
  rw [f_X8_keep_51] at h
  refine r_bipush (pc' := 53) d_X8_keep_51 cb_8 rfl ?_
  refine r_istore_n (pc' := 54) d_X8_keep_53 rfl rfl rfl rfl ?_
  exact WM.drop [] rfl (t_X8_keep_54 _ _ _ _ _ h)
def f_X8_keep_11 : Nat → Int32 → Int32 → Int32 → SS → Option (Unit × SS)
  | 0, _, _, _, _ => none
  | n + 1, v1, v2, v3, σ => if (8 : Int32) ≤ v3 then (f_X8_keep_51 v1 v2 σ) else (chk (inr v3 8) (chk (inr (v3 - (1 : Int32)) 8) (lt_ (up σ 64 0 (ix (v3 - (1 : Int32))) (σ.1 64 0 (ix v3))) (fun s1 => chk (inr v3 8) (chk (inr (v3 - (1 : Int32)) 8) (lt_ (up s1 65 0 (ix (v3 - (1 : Int32))) (s1.1 65 0 (ix v3))) (fun s2 => lt_ (v3 + (1 : Int32)) (fun x3 => f_X8_keep_11 n v1 v2 x3 s2))))))))
set_option maxRecDepth 20000 in
theorem t_X8_keep_11 {d : Nat} {X : MX} {Y : MY} {b : Nat × Nat} {r : Unit} {σ' : SS} : ∀ (n : Nat) (v1 : Int32) (v2 : Int32) (v3 : Int32) (σ : SS), f_X8_keep_11 n v1 v2 v3 σ = some (r, σ') → WM d X Y b mi_X8_keep 11 [some (vR 25 0), some (vI v1), some (vI v2), some (vI v3)] [] σ (none, σ') := by
  intro n
  induction n with
  | zero => intro _ _ _ σ h; cases h
  | succ n ih =>
    intro v1 v2 v3 σ h
    rw [f_X8_keep_11] at h
    refine r_iload_n (pc' := 12) d_X8_keep_11 rfl rfl rfl ?_
    refine r_bipush (pc' := 14) d_X8_keep_12 cb_8 rfl ?_
    refine r_icmp_ge (pcT := 51) (pc' := 17) d_X8_keep_14 rfl rfl h (fun _ h => ?_) (fun _ h => ?_)
    · exact WM.drop [3] rfl (t_X8_keep_51 h)
    · refine r_aload_n (pc' := 18) d_X8_keep_17 rfl rfl rfl ?_
      refine r_get (v := vR 64 _) (pc' := 21) fl_X8_71 d_X8_keep_18 rfl rfl (fun g => Or.inl ⟨rfl, g.2⟩) rfl ?_
      refine r_iload_n (pc' := 22) d_X8_keep_21 rfl rfl rfl ?_
      refine r_iconst (pc' := 23) d_X8_keep_22 ci_1 rfl ?_
      refine r_isub (pc' := 24) d_X8_keep_23 rfl ?_
      refine r_aload_n (pc' := 25) d_X8_keep_24 rfl rfl rfl ?_
      refine r_get (v := vR 64 _) (pc' := 28) fl_X8_71 d_X8_keep_25 rfl rfl (fun g => Or.inl ⟨rfl, g.2⟩) rfl ?_
      refine r_iload_n (pc' := 29) d_X8_keep_28 rfl rfl rfl ?_
      refine r_iaload (pc' := 30) d_X8_keep_29 rfl (fun _ => rfl) rfl h (fun h => ?_)
      refine l_iastore (pc' := 31) d_X8_keep_30 rfl (fun _ => rfl) (by decide) (by decide) (fun _ => rfl) rfl h (fun s1 h => ?_)
      refine r_aload_n (pc' := 32) d_X8_keep_31 rfl rfl rfl ?_
      refine r_get (v := vR 65 _) (pc' := 35) fl_X8_74 d_X8_keep_32 rfl rfl (fun g => Or.inl ⟨rfl, g.2⟩) rfl ?_
      refine r_iload_n (pc' := 36) d_X8_keep_35 rfl rfl rfl ?_
      refine r_iconst (pc' := 37) d_X8_keep_36 ci_1 rfl ?_
      refine r_isub (pc' := 38) d_X8_keep_37 rfl ?_
      refine r_aload_n (pc' := 39) d_X8_keep_38 rfl rfl rfl ?_
      refine r_get (v := vR 65 _) (pc' := 42) fl_X8_74 d_X8_keep_39 rfl rfl (fun g => Or.inl ⟨rfl, g.2⟩) rfl ?_
      refine r_iload_n (pc' := 43) d_X8_keep_42 rfl rfl rfl ?_
      refine r_iaload (pc' := 44) d_X8_keep_43 rfl (fun _ => rfl) rfl h (fun h => ?_)
      refine l_iastore (pc' := 45) d_X8_keep_44 rfl (fun _ => rfl) (by decide) (by decide) (fun _ => rfl) rfl h (fun s2 h => ?_)
      refine l_iinc (pc' := 48) d_X8_keep_45 rfl ci_1 rfl rfl rfl h (fun x3 h => ?_)
      refine r_goto (pc' := 11) d_X8_keep_48 rfl ?_
      exact WM.drop [] rfl (ih _ _ _ _ h)
def f_X8_keep (v1 : Int32) (v2 : Int32) (σ : SS) : Option (Unit × SS) := if (σ.1 25 0 23) = (8 : Int32) then (f_X8_keep_11 FU v1 v2 (1 : Int32) σ) else (f_X8_keep_91 v1 v2 σ)
set_option maxRecDepth 20000 in
theorem t_X8_keep {d : Nat} {b : Nat × Nat} {v1 : Int32} {v2 : Int32} {σ : SS} {r : Unit} {σ' : SS} (h : f_X8_keep v1 v2 σ = some (r, σ')) : MM d b mi_X8_keep [vR 25 0, vI v1, vI v2] σ (none, σ') := by
  refine MM.of (lv := [some (vR 25 0), some (vI v1), some (vI v2), none]) (by decide +kernel) rfl rfl (fun X Y => ?_)
  rw [f_X8_keep] at h
  refine r_aload_n (pc' := 1) d_X8_keep_0 rfl rfl rfl ?_
  refine r_get (v := vI _) (pc' := 4) fl_X8_177 d_X8_keep_1 rfl rfl (fun _ => trivial) rfl ?_
  refine r_bipush (pc' := 6) d_X8_keep_4 cb_8 rfl ?_
  refine r_icmp_ne (pcT := 91) (pc' := 9) d_X8_keep_6 rfl rfl h (fun _ h => ?_) (fun _ h => ?_)
  · refine r_iconst (pc' := 10) d_X8_keep_9 ci_1 rfl ?_
    refine r_istore_n (pc' := 11) d_X8_keep_10 rfl rfl rfl rfl ?_
    exact WM.drop [] rfl (t_X8_keep_11 _ _ _ _ _ h)
  · exact WM.drop [] rfl (t_X8_keep_91 h)
/-! OctagonYardModel.stands(I)Z -/
def mi_X8_stands : MI := (yX8_stands, cX8_stands, 4, (some .boolean))
theorem d_X8_stands_0 : decode mi_X8_stands.2.1 0 = .ok (.iconst 0, 1) := by decide +kernel
theorem d_X8_stands_1 : decode mi_X8_stands.2.1 1 = .ok (.istore_n 2, 1) := by decide +kernel
theorem d_X8_stands_2 : decode mi_X8_stands.2.1 2 = .ok (.iload_n 2, 1) := by decide +kernel
theorem d_X8_stands_3 : decode mi_X8_stands.2.1 3 = .ok (.aload_n 0, 1) := by decide +kernel
theorem d_X8_stands_4 : decode mi_X8_stands.2.1 4 = .ok (.getfield 285, 3) := by decide +kernel
theorem d_X8_stands_7 : decode mi_X8_stands.2.1 7 = .ok (.if_icmp .ge 58, 3) := by decide +kernel
theorem d_X8_stands_10 : decode mi_X8_stands.2.1 10 = .ok (.iconst 0, 1) := by decide +kernel
theorem d_X8_stands_11 : decode mi_X8_stands.2.1 11 = .ok (.istore_n 3, 1) := by decide +kernel
theorem d_X8_stands_12 : decode mi_X8_stands.2.1 12 = .ok (.iload_n 3, 1) := by decide +kernel
theorem d_X8_stands_13 : decode mi_X8_stands.2.1 13 = .ok (.aload_n 0, 1) := by decide +kernel
theorem d_X8_stands_14 : decode mi_X8_stands.2.1 14 = .ok (.getfield 110, 3) := by decide +kernel
theorem d_X8_stands_17 : decode mi_X8_stands.2.1 17 = .ok (.iload_n 2, 1) := by decide +kernel
theorem d_X8_stands_18 : decode mi_X8_stands.2.1 18 = .ok (.iaload, 1) := by decide +kernel
theorem d_X8_stands_19 : decode mi_X8_stands.2.1 19 = .ok (.if_icmp .ge 40, 3) := by decide +kernel
theorem d_X8_stands_22 : decode mi_X8_stands.2.1 22 = .ok (.aload_n 0, 1) := by decide +kernel
theorem d_X8_stands_23 : decode mi_X8_stands.2.1 23 = .ok (.getfield 116, 3) := by decide +kernel
theorem d_X8_stands_26 : decode mi_X8_stands.2.1 26 = .ok (.bipush 20, 2) := by decide +kernel
theorem d_X8_stands_28 : decode mi_X8_stands.2.1 28 = .ok (.iload_n 2, 1) := by decide +kernel
theorem d_X8_stands_29 : decode mi_X8_stands.2.1 29 = .ok (.imul, 1) := by decide +kernel
theorem d_X8_stands_30 : decode mi_X8_stands.2.1 30 = .ok (.iload_n 3, 1) := by decide +kernel
theorem d_X8_stands_31 : decode mi_X8_stands.2.1 31 = .ok (.iadd, 1) := by decide +kernel
theorem d_X8_stands_32 : decode mi_X8_stands.2.1 32 = .ok (.baload, 1) := by decide +kernel
theorem d_X8_stands_33 : decode mi_X8_stands.2.1 33 = .ok (.ifCond .ne 20, 3) := by decide +kernel
theorem d_X8_stands_36 : decode mi_X8_stands.2.1 36 = .ok (.aload_n 0, 1) := by decide +kernel
theorem d_X8_stands_37 : decode mi_X8_stands.2.1 37 = .ok (.getfield 113, 3) := by decide +kernel
theorem d_X8_stands_40 : decode mi_X8_stands.2.1 40 = .ok (.bipush 20, 2) := by decide +kernel
theorem d_X8_stands_42 : decode mi_X8_stands.2.1 42 = .ok (.iload_n 2, 1) := by decide +kernel
theorem d_X8_stands_43 : decode mi_X8_stands.2.1 43 = .ok (.imul, 1) := by decide +kernel
theorem d_X8_stands_44 : decode mi_X8_stands.2.1 44 = .ok (.iload_n 3, 1) := by decide +kernel
theorem d_X8_stands_45 : decode mi_X8_stands.2.1 45 = .ok (.iadd, 1) := by decide +kernel
theorem d_X8_stands_46 : decode mi_X8_stands.2.1 46 = .ok (.iaload, 1) := by decide +kernel
theorem d_X8_stands_47 : decode mi_X8_stands.2.1 47 = .ok (.iload_n 1, 1) := by decide +kernel
theorem d_X8_stands_48 : decode mi_X8_stands.2.1 48 = .ok (.if_icmp .ne 5, 3) := by decide +kernel
theorem d_X8_stands_51 : decode mi_X8_stands.2.1 51 = .ok (.iconst 1, 1) := by decide +kernel
theorem d_X8_stands_52 : decode mi_X8_stands.2.1 52 = .ok (.ireturn, 1) := by decide +kernel
theorem d_X8_stands_53 : decode mi_X8_stands.2.1 53 = .ok (.iinc 3 1, 3) := by decide +kernel
theorem d_X8_stands_56 : decode mi_X8_stands.2.1 56 = .ok (.goto (-44), 3) := by decide +kernel
theorem d_X8_stands_59 : decode mi_X8_stands.2.1 59 = .ok (.iinc 2 1, 3) := by decide +kernel
theorem d_X8_stands_62 : decode mi_X8_stands.2.1 62 = .ok (.goto (-60), 3) := by decide +kernel
theorem d_X8_stands_65 : decode mi_X8_stands.2.1 65 = .ok (.iconst 0, 1) := by decide +kernel
theorem d_X8_stands_66 : decode mi_X8_stands.2.1 66 = .ok (.ireturn, 1) := by decide +kernel
theorem fl_X8_110 : FL RX8 110 8 49 42 := ⟨RX8, TX8, rfl, by decide, rfl, by decide +kernel, in_8⟩
theorem fl_X8_113 : FL RX8 113 8 49 43 := ⟨RX8, TX8, rfl, by decide, rfl, by decide +kernel, in_8⟩
theorem fl_X8_116 : FL RX8 116 8 49 44 := ⟨RX8, TX8, rfl, by decide, rfl, by decide +kernel, in_8⟩
theorem fl_X8_285 : FL RX8 285 8 49 41 := ⟨RX8, TX8, rfl, by decide, rfl, by decide +kernel, in_8⟩
def f_X8_stands_59 (K2 : Int32 → Int32 → SS → Option (Int32 × SS)) (v1 : Int32) (v2 : Int32) (σ : SS) : Option (Int32 × SS) := lt_ (v2 + (1 : Int32)) (fun x1 => K2 v1 x1 σ)
set_option maxRecDepth 20000 in
theorem t_X8_stands_59 {d : Nat} {X : MX} {Y : MY} {b : Nat × Nat} {r : Int32} {σ' : SS} {K2 : Int32 → Int32 → SS → Option (Int32 × SS)} {v1 : Int32} {v2 : Int32} (hK2 : ∀ (v1 : Int32) (v2 : Int32) (σ : SS), K2 v1 v2 σ = some (r, σ') → WM d X Y b mi_X8_stands 2 [some (vR 25 0), some (vI v1), some (vI v2), none] [] σ (some (vI r), σ')) {σ : SS} (h : f_X8_stands_59 K2 v1 v2 σ = some (r, σ')) : WM d X Y b mi_X8_stands 59 [some (vR 25 0), some (vI v1), some (vI v2), none] [] σ (some (vI r), σ') := by
  rw [f_X8_stands_59] at h
  refine l_iinc (pc' := 62) d_X8_stands_59 rfl ci_1 rfl rfl rfl h (fun x1 h => ?_)
  refine r_goto (pc' := 2) d_X8_stands_62 rfl ?_
  exact WM.drop [] rfl (hK2 _ _ _ h)
def f_X8_stands_53 (K2 : Int32 → Int32 → SS → Option (Int32 × SS)) (K12 : Int32 → Int32 → Int32 → SS → Option (Int32 × SS)) (v1 : Int32) (v2 : Int32) (v3 : Int32) (σ : SS) : Option (Int32 × SS) := lt_ (v3 + (1 : Int32)) (fun x1 => K12 v1 v2 x1 σ)
set_option maxRecDepth 20000 in
theorem t_X8_stands_53 {d : Nat} {X : MX} {Y : MY} {b : Nat × Nat} {r : Int32} {σ' : SS} {K2 : Int32 → Int32 → SS → Option (Int32 × SS)} {K12 : Int32 → Int32 → Int32 → SS → Option (Int32 × SS)} {v1 : Int32} {v2 : Int32} {v3 : Int32} (hK2 : ∀ (v1 : Int32) (v2 : Int32) (σ : SS), K2 v1 v2 σ = some (r, σ') → WM d X Y b mi_X8_stands 2 [some (vR 25 0), some (vI v1), some (vI v2), none] [] σ (some (vI r), σ')) (hK12 : ∀ (v1 : Int32) (v2 : Int32) (v3 : Int32) (σ : SS), K12 v1 v2 v3 σ = some (r, σ') → WM d X Y b mi_X8_stands 12 [some (vR 25 0), some (vI v1), some (vI v2), some (vI v3)] [] σ (some (vI r), σ')) {σ : SS} (h : f_X8_stands_53 K2 K12 v1 v2 v3 σ = some (r, σ')) : WM d X Y b mi_X8_stands 53 [some (vR 25 0), some (vI v1), some (vI v2), some (vI v3)] [] σ (some (vI r), σ') := by
  rw [f_X8_stands_53] at h
  refine l_iinc (pc' := 56) d_X8_stands_53 rfl ci_1 rfl rfl rfl h (fun x1 h => ?_)
  refine r_goto (pc' := 12) d_X8_stands_56 rfl ?_
  exact WM.drop [] rfl (hK12 _ _ _ _ h)
def f_X8_stands_12 (K2 : Int32 → Int32 → SS → Option (Int32 × SS)) : Nat → Int32 → Int32 → Int32 → SS → Option (Int32 × SS)
  | 0, _, _, _, _ => none
  | n + 1, v1, v2, v3, σ => chk (inr v2 12) (if (σ.1 82 0 (ix v2)) ≤ v3 then (f_X8_stands_59 K2 v1 v2 σ) else (chk (inr (((20 : Int32) * v2) + v3) 240) (if (σ.1 84 0 (ix (((20 : Int32) * v2) + v3))) = 0 then (chk (inr (((20 : Int32) * v2) + v3) 240) (if (σ.1 83 0 (ix (((20 : Int32) * v2) + v3))) = v1 then (some ((1 : Int32), σ)) else (f_X8_stands_53 K2 (f_X8_stands_12 K2 n) v1 v2 v3 σ))) else (f_X8_stands_53 K2 (f_X8_stands_12 K2 n) v1 v2 v3 σ))))
set_option maxRecDepth 20000 in
theorem t_X8_stands_12 {d : Nat} {X : MX} {Y : MY} {b : Nat × Nat} {r : Int32} {σ' : SS} {K2 : Int32 → Int32 → SS → Option (Int32 × SS)} (hK2 : ∀ (v1 : Int32) (v2 : Int32) (σ : SS), K2 v1 v2 σ = some (r, σ') → WM d X Y b mi_X8_stands 2 [some (vR 25 0), some (vI v1), some (vI v2), none] [] σ (some (vI r), σ')) : ∀ (n : Nat) (v1 : Int32) (v2 : Int32) (v3 : Int32) (σ : SS), f_X8_stands_12 K2 n v1 v2 v3 σ = some (r, σ') → WM d X Y b mi_X8_stands 12 [some (vR 25 0), some (vI v1), some (vI v2), some (vI v3)] [] σ (some (vI r), σ') := by
  intro n
  induction n with
  | zero => intro _ _ _ σ h; cases h
  | succ n ih =>
    intro v1 v2 v3 σ h
    rw [f_X8_stands_12] at h
    refine r_iload_n (pc' := 13) d_X8_stands_12 rfl rfl rfl ?_
    refine r_aload_n (pc' := 14) d_X8_stands_13 rfl rfl rfl ?_
    refine r_get (v := vR 82 _) (pc' := 17) fl_X8_110 d_X8_stands_14 rfl rfl (fun g => Or.inl ⟨rfl, g.2⟩) rfl ?_
    refine r_iload_n (pc' := 18) d_X8_stands_17 rfl rfl rfl ?_
    refine r_iaload (pc' := 19) d_X8_stands_18 rfl (fun _ => rfl) rfl h (fun h => ?_)
    refine r_icmp_ge (pcT := 59) (pc' := 22) d_X8_stands_19 rfl rfl h (fun _ h => ?_) (fun _ h => ?_)
    · exact WM.drop [3] rfl (t_X8_stands_59 hK2 h)
    · refine r_aload_n (pc' := 23) d_X8_stands_22 rfl rfl rfl ?_
      refine r_get (v := vR 84 _) (pc' := 26) fl_X8_116 d_X8_stands_23 rfl rfl (fun g => Or.inl ⟨rfl, g.2⟩) rfl ?_
      refine r_bipush (pc' := 28) d_X8_stands_26 cb_20 rfl ?_
      refine r_iload_n (pc' := 29) d_X8_stands_28 rfl rfl rfl ?_
      refine r_imul (pc' := 30) d_X8_stands_29 rfl ?_
      refine r_iload_n (pc' := 31) d_X8_stands_30 rfl rfl rfl ?_
      refine r_iadd (pc' := 32) d_X8_stands_31 rfl ?_
      refine r_baload (pc' := 33) d_X8_stands_32 rfl (fun _ => rfl) rfl h (fun h => ?_)
      refine r_if_ne (pcT := 53) (pc' := 36) d_X8_stands_33 rfl rfl h (fun _ h => ?_) (fun _ h => ?_)
      · refine r_aload_n (pc' := 37) d_X8_stands_36 rfl rfl rfl ?_
        refine r_get (v := vR 83 _) (pc' := 40) fl_X8_113 d_X8_stands_37 rfl rfl (fun g => Or.inl ⟨rfl, g.2⟩) rfl ?_
        refine r_bipush (pc' := 42) d_X8_stands_40 cb_20 rfl ?_
        refine r_iload_n (pc' := 43) d_X8_stands_42 rfl rfl rfl ?_
        refine r_imul (pc' := 44) d_X8_stands_43 rfl ?_
        refine r_iload_n (pc' := 45) d_X8_stands_44 rfl rfl rfl ?_
        refine r_iadd (pc' := 46) d_X8_stands_45 rfl ?_
        refine r_iaload (pc' := 47) d_X8_stands_46 rfl (fun _ => rfl) rfl h (fun h => ?_)
        refine r_iload_n (pc' := 48) d_X8_stands_47 rfl rfl rfl ?_
        refine r_icmp_ne (pcT := 53) (pc' := 51) d_X8_stands_48 rfl rfl h (fun _ h => ?_) (fun _ h => ?_)
        · refine r_iconst (pc' := 52) d_X8_stands_51 ci_1 rfl ?_
          exact r_zret d_X8_stands_52 rfl (Or.inr rfl) h
        · exact WM.drop [] rfl (t_X8_stands_53 hK2 ih h)
      · exact WM.drop [] rfl (t_X8_stands_53 hK2 ih h)
def f_X8_stands_2 : Nat → Int32 → Int32 → SS → Option (Int32 × SS)
  | 0, _, _, _ => none
  | n + 1, v1, v2, σ => if (σ.1 25 0 41) ≤ v2 then (some ((0 : Int32), σ)) else (f_X8_stands_12 (f_X8_stands_2 n) FU v1 v2 (0 : Int32) σ)
set_option maxRecDepth 20000 in
theorem t_X8_stands_2 {d : Nat} {X : MX} {Y : MY} {b : Nat × Nat} {r : Int32} {σ' : SS} : ∀ (n : Nat) (v1 : Int32) (v2 : Int32) (σ : SS), f_X8_stands_2 n v1 v2 σ = some (r, σ') → WM d X Y b mi_X8_stands 2 [some (vR 25 0), some (vI v1), some (vI v2), none] [] σ (some (vI r), σ') := by
  intro n
  induction n with
  | zero => intro _ _ σ h; cases h
  | succ n ih =>
    intro v1 v2 σ h
    rw [f_X8_stands_2] at h
    refine r_iload_n (pc' := 3) d_X8_stands_2 rfl rfl rfl ?_
    refine r_aload_n (pc' := 4) d_X8_stands_3 rfl rfl rfl ?_
    refine r_get (v := vI _) (pc' := 7) fl_X8_285 d_X8_stands_4 rfl rfl (fun _ => trivial) rfl ?_
    refine r_icmp_ge (pcT := 65) (pc' := 10) d_X8_stands_7 rfl rfl h (fun _ h => ?_) (fun _ h => ?_)
    · refine r_iconst (pc' := 66) d_X8_stands_65 ci_0 rfl ?_
      exact r_zret d_X8_stands_66 rfl (Or.inl rfl) h
    · refine r_iconst (pc' := 11) d_X8_stands_10 ci_0 rfl ?_
      refine r_istore_n (pc' := 12) d_X8_stands_11 rfl rfl rfl rfl ?_
      exact WM.drop [] rfl (t_X8_stands_12 ih _ _ _ _ _ h)
def f_X8_stands (v1 : Int32) (σ : SS) : Option (Int32 × SS) := f_X8_stands_2 FU v1 (0 : Int32) σ
set_option maxRecDepth 20000 in
theorem t_X8_stands {d : Nat} {b : Nat × Nat} {v1 : Int32} {σ : SS} {r : Int32} {σ' : SS} (h : f_X8_stands v1 σ = some (r, σ')) : MM d b mi_X8_stands [vR 25 0, vI v1] σ (some (vI r), σ') := by
  refine MM.of (lv := [some (vR 25 0), some (vI v1), none, none]) (by decide +kernel) rfl rfl (fun X Y => ?_)
  rw [f_X8_stands] at h
  refine r_iconst (pc' := 1) d_X8_stands_0 ci_0 rfl ?_
  refine r_istore_n (pc' := 2) d_X8_stands_1 rfl rfl rfl rfl ?_
  exact WM.drop [] rfl (t_X8_stands_2 _ _ _ _ h)
