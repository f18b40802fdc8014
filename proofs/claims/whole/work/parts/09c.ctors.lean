theorem inn_0 : ∀ w ∈ u_ws RX0 TX0 5, w ∈ mtbl := by decide +kernel
theorem inn_1 : ∀ w ∈ u_ws RX1 TX1 5, w ∈ mtbl := by decide +kernel
theorem inn_2 : ∀ w ∈ u_ws RX2 TX2 5, w ∈ mtbl := by decide +kernel
theorem inn_3 : ∀ w ∈ u_ws RX3 TX3 5, w ∈ mtbl := by decide +kernel
theorem inn_4 : ∀ w ∈ u_ws RX4 TX4 5, w ∈ mtbl := by decide +kernel
theorem inn_5 : ∀ w ∈ u_ws RX5 TX5 6, w ∈ mtbl := by decide +kernel
theorem inn_6 : ∀ w ∈ u_ws RX6 TX6 3, w ∈ mtbl := by decide +kernel
theorem inn_7 : ∀ w ∈ u_ws RX7 TX7 4, w ∈ mtbl := by decide +kernel
theorem inn_8 : ∀ w ∈ u_ws RX8 TX8 49, w ∈ mtbl := by decide +kernel
theorem c_norm {ao : Bool} {d : Nat} {X : MX} {Y : MY} {b : Nat × Nat} {mi : MI} {pc : Nat} {B : Heap} {i : Nat} {st : List Value} {ns ns' post : List NC} (he : ns = ns') (k : WC ao d X Y b mi pc B i st ns' post) : WC ao d X Y b mi pc B i st ns post := he ▸ k
def mi_X3_init : MI := (yX3_init, cX3_init, 1, none)
theorem d_X3_init_0 : decode mi_X3_init.2.1 0 = .ok (.aload_n 0, 1) := by decide +kernel
theorem d_X3_init_1 : decode mi_X3_init.2.1 1 = .ok (.invokespecial 3, 3) := by decide +kernel
theorem d_X3_init_4 : decode mi_X3_init.2.1 4 = .ok (.aload_n 0, 1) := by decide +kernel
theorem d_X3_init_5 : decode mi_X3_init.2.1 5 = .ok (.bipush 8, 2) := by decide +kernel
theorem d_X3_init_7 : decode mi_X3_init.2.1 7 = .ok (.newarray .int, 2) := by decide +kernel
theorem d_X3_init_9 : decode mi_X3_init.2.1 9 = .ok (.putfield 9, 3) := by decide +kernel
theorem d_X3_init_12 : decode mi_X3_init.2.1 12 = .ok (.aload_n 0, 1) := by decide +kernel
theorem d_X3_init_13 : decode mi_X3_init.2.1 13 = .ok (.bipush 8, 2) := by decide +kernel
theorem d_X3_init_15 : decode mi_X3_init.2.1 15 = .ok (.newarray .int, 2) := by decide +kernel
theorem d_X3_init_17 : decode mi_X3_init.2.1 17 = .ok (.putfield 15, 3) := by decide +kernel
theorem d_X3_init_20 : decode mi_X3_init.2.1 20 = .ok (.aload_n 0, 1) := by decide +kernel
theorem d_X3_init_21 : decode mi_X3_init.2.1 21 = .ok (.bipush 8, 2) := by decide +kernel
theorem d_X3_init_23 : decode mi_X3_init.2.1 23 = .ok (.newarray .int, 2) := by decide +kernel
theorem d_X3_init_25 : decode mi_X3_init.2.1 25 = .ok (.putfield 18, 3) := by decide +kernel
theorem d_X3_init_28 : decode mi_X3_init.2.1 28 = .ok (.aload_n 0, 1) := by decide +kernel
theorem d_X3_init_29 : decode mi_X3_init.2.1 29 = .ok (.bipush 8, 2) := by decide +kernel
theorem d_X3_init_31 : decode mi_X3_init.2.1 31 = .ok (.newarray .int, 2) := by decide +kernel
theorem d_X3_init_33 : decode mi_X3_init.2.1 33 = .ok (.putfield 21, 3) := by decide +kernel
theorem d_X3_init_36 : decode mi_X3_init.2.1 36 = .ok (.return_, 1) := by decide +kernel
theorem co_X3_3 : CO RX3 3 := by unfold CO; decide +kernel
theorem ac_0 : Cond.arrayClass (aty 0) ∈ mtbl := by decide +kernel
theorem fln_X3_9 : FL RX3 9 3 5 0 := ⟨RX3, TX3, rfl, by decide, rfl, by decide +kernel, inn_3⟩
theorem fi_3_0 : FI 3 5 0 (tyX3 0) := ⟨RX3, TX3, tyX3, rfl, by decide +kernel, tyX3_ok, nmX3⟩
theorem fln_X3_15 : FL RX3 15 3 5 1 := ⟨RX3, TX3, rfl, by decide, rfl, by decide +kernel, inn_3⟩
theorem fi_3_1 : FI 3 5 1 (tyX3 1) := ⟨RX3, TX3, tyX3, rfl, by decide +kernel, tyX3_ok, nmX3⟩
theorem fln_X3_18 : FL RX3 18 3 5 2 := ⟨RX3, TX3, rfl, by decide, rfl, by decide +kernel, inn_3⟩
theorem fi_3_2 : FI 3 5 2 (tyX3 2) := ⟨RX3, TX3, tyX3, rfl, by decide +kernel, tyX3_ok, nmX3⟩
theorem fln_X3_21 : FL RX3 21 3 5 3 := ⟨RX3, TX3, rfl, by decide, rfl, by decide +kernel, inn_3⟩
theorem fi_3_3 : FI 3 5 3 (tyX3 3) := ⟨RX3, TX3, tyX3, rfl, by decide +kernel, tyX3_ok, nmX3⟩
set_option maxRecDepth 20000 in
theorem mc_X3_init {d : Nat} {B : Heap} : MC false (d + 1) (4, 32) mi_X3_init B 1 [.inl (4, [.null, .int 0, .int 0, .int 0, .int 0]), .inl (3, [.null, .null, .null, .null, .int 0])] [.inl (4, [.null, .int 0, .int 0, .int 0, .int 0]), .inl (3, [.ref (B.size + 2), .ref (B.size + 3), .ref (B.size + 4), .ref (B.size + 5), .int 0]), .inr (0, 8, fun _ => .int 0), .inr (0, 8, fun _ => .int 0), .inr (0, 8, fun _ => .int 0), .inr (0, 8, fun _ => .int 0)] := by
  refine MC.of (by decide +kernel) rfl rfl (fun X Y => ?_)
  refine c_load0 (pc' := 1) d_X3_init_0 rfl ?_
  refine c_obj (pc' := 4) co_X3_3 d_X3_init_1 rfl rfl ?_
  refine c_load0 (pc' := 5) d_X3_init_4 rfl ?_
  refine c_bipush (pc' := 7) (x := 8) d_X3_init_5 (by decide) rfl ?_
  refine c_newarr (b' := (3, 24)) (t := 0) (N := 8) (pc' := 9) rfl (by decide) ac_0 d_X3_init_7 (by decide) (by decide) (by decide) rfl rfl rfl ?_
  refine c_put (j := 1) (pc' := 12) fln_X3_9 fi_3_0 rfl d_X3_init_9 rfl rfl rfl rfl rfl ?_
  refine c_load0 (pc' := 13) d_X3_init_12 rfl ?_
  refine c_bipush (pc' := 15) (x := 8) d_X3_init_13 (by decide) rfl ?_
  refine c_newarr (b' := (2, 16)) (t := 0) (N := 8) (pc' := 17) rfl (by decide) ac_0 d_X3_init_15 (by decide) (by decide) (by decide) rfl rfl rfl ?_
  refine c_put (j := 1) (pc' := 20) fln_X3_15 fi_3_1 rfl d_X3_init_17 rfl rfl rfl rfl rfl ?_
  refine c_load0 (pc' := 21) d_X3_init_20 rfl ?_
  refine c_bipush (pc' := 23) (x := 8) d_X3_init_21 (by decide) rfl ?_
  refine c_newarr (b' := (1, 8)) (t := 0) (N := 8) (pc' := 25) rfl (by decide) ac_0 d_X3_init_23 (by decide) (by decide) (by decide) rfl rfl rfl ?_
  refine c_put (j := 1) (pc' := 28) fln_X3_18 fi_3_2 rfl d_X3_init_25 rfl rfl rfl rfl rfl ?_
  refine c_load0 (pc' := 29) d_X3_init_28 rfl ?_
  refine c_bipush (pc' := 31) (x := 8) d_X3_init_29 (by decide) rfl ?_
  refine c_newarr (b' := (0, 0)) (t := 0) (N := 8) (pc' := 33) rfl (by decide) ac_0 d_X3_init_31 (by decide) (by decide) (by decide) rfl rfl rfl ?_
  refine c_put (j := 1) (pc' := 36) fln_X3_21 fi_3_3 rfl d_X3_init_33 rfl rfl rfl rfl rfl ?_
  exact c_ret d_X3_init_36 rfl rfl
def mi_X4_init : MI := (yX4_init, cX4_init, 1, none)
theorem d_X4_init_0 : decode mi_X4_init.2.1 0 = .ok (.aload_n 0, 1) := by decide +kernel
theorem d_X4_init_1 : decode mi_X4_init.2.1 1 = .ok (.invokespecial 3, 3) := by decide +kernel
theorem d_X4_init_4 : decode mi_X4_init.2.1 4 = .ok (.aload_n 0, 1) := by decide +kernel
theorem d_X4_init_5 : decode mi_X4_init.2.1 5 = .ok (.new 9, 3) := by decide +kernel
theorem d_X4_init_8 : decode mi_X4_init.2.1 8 = .ok (.dup, 1) := by decide +kernel
theorem d_X4_init_9 : decode mi_X4_init.2.1 9 = .ok (.invokespecial 11, 3) := by decide +kernel
theorem d_X4_init_12 : decode mi_X4_init.2.1 12 = .ok (.putfield 12, 3) := by decide +kernel
theorem d_X4_init_15 : decode mi_X4_init.2.1 15 = .ok (.return_, 1) := by decide +kernel
theorem co_X4_3 : CO RX4 3 := by unfold CO; decide +kernel
theorem cbn_X4_9 : CB RX4 9 3 5 [.null, .null, .null, .null, .int 0] := ⟨RX3, TX3, tyX3, rfl, by decide +kernel, by decide +kernel, by decide +kernel, inn_3, tyX3_ok, rfl, by decide +kernel⟩
theorem kn_X4_11 : KN RX4 11 "OctagonYard" mi_X3_init := by unfold KN; decide +kernel
theorem fln_X4_12 : FL RX4 12 4 5 0 := ⟨RX4, TX4, rfl, by decide, rfl, by decide +kernel, inn_4⟩
theorem fi_4_0 : FI 4 5 0 (tyX4 0) := ⟨RX4, TX4, tyX4, rfl, by decide +kernel, tyX4_ok, nmX4⟩
set_option maxRecDepth 20000 in
theorem mc_X4_init {d : Nat} {B : Heap} : MC false (d + 2) (5, 37) mi_X4_init B 0 [.inl (4, [.null, .int 0, .int 0, .int 0, .int 0])] [.inl (4, [.ref (B.size + 1), .int 0, .int 0, .int 0, .int 0]), .inl (3, [.ref (B.size + 2), .ref (B.size + 3), .ref (B.size + 4), .ref (B.size + 5), .int 0]), .inr (0, 8, fun _ => .int 0), .inr (0, 8, fun _ => .int 0), .inr (0, 8, fun _ => .int 0), .inr (0, 8, fun _ => .int 0)] := by
  refine MC.of (by decide +kernel) rfl rfl (fun X Y => ?_)
  refine c_load0 (pc' := 1) d_X4_init_0 rfl ?_
  refine c_obj (pc' := 4) co_X4_3 d_X4_init_1 rfl rfl ?_
  refine c_load0 (pc' := 5) d_X4_init_4 rfl ?_
  refine c_new (b' := (4, 32)) (pc' := 8) cbn_X4_9 d_X4_init_5 rfl rfl rfl ?_
  refine c_dup (pc' := 9) d_X4_init_8 rfl rfl ?_
  refine c_call (b' := (0, 0)) (bc := (4, 32)) (j := 1) (pc' := 12) rfl rfl rfl rfl (fun ok hA {H} {locs} {ls} {cells slots} hC hl hr hc hs => w_ctorN kn_X4_11 (mc_X3_init (B := B)) d_X4_init_9 ok hA hC hl hr hc hs) ?_
  refine c_put (j := 0) (pc' := 15) fln_X4_12 fi_4_0 rfl d_X4_init_12 rfl rfl rfl rfl rfl ?_
  exact c_ret d_X4_init_15 rfl rfl
def mi_X1_init : MI := (yX1_init, cX1_init, 1, none)
theorem d_X1_init_0 : decode mi_X1_init.2.1 0 = .ok (.aload_n 0, 1) := by decide +kernel
theorem d_X1_init_1 : decode mi_X1_init.2.1 1 = .ok (.invokespecial 1, 3) := by decide +kernel
theorem d_X1_init_4 : decode mi_X1_init.2.1 4 = .ok (.aload_n 0, 1) := by decide +kernel
theorem d_X1_init_5 : decode mi_X1_init.2.1 5 = .ok (.bipush 20, 2) := by decide +kernel
theorem d_X1_init_7 : decode mi_X1_init.2.1 7 = .ok (.newarray .int, 2) := by decide +kernel
theorem d_X1_init_9 : decode mi_X1_init.2.1 9 = .ok (.putfield 9, 3) := by decide +kernel
theorem d_X1_init_12 : decode mi_X1_init.2.1 12 = .ok (.aload_n 0, 1) := by decide +kernel
theorem d_X1_init_13 : decode mi_X1_init.2.1 13 = .ok (.bipush 20, 2) := by decide +kernel
theorem d_X1_init_15 : decode mi_X1_init.2.1 15 = .ok (.newarray .boolean, 2) := by decide +kernel
theorem d_X1_init_17 : decode mi_X1_init.2.1 17 = .ok (.putfield 13, 3) := by decide +kernel
theorem d_X1_init_20 : decode mi_X1_init.2.1 20 = .ok (.return_, 1) := by decide +kernel
theorem co_X1_1 : CO RX1 1 := by unfold CO; decide +kernel
theorem fln_X1_9 : FL RX1 9 1 5 0 := ⟨RX1, TX1, rfl, by decide, rfl, by decide +kernel, inn_1⟩
theorem fi_1_0 : FI 1 5 0 (tyX1 0) := ⟨RX1, TX1, tyX1, rfl, by decide +kernel, tyX1_ok, nmX1⟩
theorem ac_1 : Cond.arrayClass (aty 1) ∈ mtbl := by decide +kernel
theorem fln_X1_13 : FL RX1 13 1 5 1 := ⟨RX1, TX1, rfl, by decide, rfl, by decide +kernel, inn_1⟩
theorem fi_1_1 : FI 1 5 1 (tyX1 1) := ⟨RX1, TX1, tyX1, rfl, by decide +kernel, tyX1_ok, nmX1⟩
set_option maxRecDepth 20000 in
theorem mc_X1_init {d : Nat} {B : Heap} : MC false (d + 1) (2, 40) mi_X1_init B 0 [.inl (1, [.null, .null, .int 0, .int 0, .int 0])] [.inl (1, [.ref (B.size + 1), .ref (B.size + 2), .int 0, .int 0, .int 0]), .inr (0, 20, fun _ => .int 0), .inr (1, 20, fun _ => .int 0)] := by
  refine MC.of (by decide +kernel) rfl rfl (fun X Y => ?_)
  refine c_load0 (pc' := 1) d_X1_init_0 rfl ?_
  refine c_obj (pc' := 4) co_X1_1 d_X1_init_1 rfl rfl ?_
  refine c_load0 (pc' := 5) d_X1_init_4 rfl ?_
  refine c_bipush (pc' := 7) (x := 20) d_X1_init_5 (by decide) rfl ?_
  refine c_newarr (b' := (1, 20)) (t := 0) (N := 20) (pc' := 9) rfl (by decide) ac_0 d_X1_init_7 (by decide) (by decide) (by decide) rfl rfl rfl ?_
  refine c_put (j := 0) (pc' := 12) fln_X1_9 fi_1_0 rfl d_X1_init_9 rfl rfl rfl rfl rfl ?_
  refine c_load0 (pc' := 13) d_X1_init_12 rfl ?_
  refine c_bipush (pc' := 15) (x := 20) d_X1_init_13 (by decide) rfl ?_
  refine c_newarr (b' := (0, 0)) (t := 1) (N := 20) (pc' := 17) rfl (by decide) ac_1 d_X1_init_15 (by decide) (by decide) (by decide) rfl rfl rfl ?_
  refine c_put (j := 0) (pc' := 20) fln_X1_13 fi_1_1 rfl d_X1_init_17 rfl rfl rfl rfl rfl ?_
  exact c_ret d_X1_init_20 rfl rfl
def mi_X6_init : MI := (yX6_init, cX6_init, 1, none)
theorem d_X6_init_0 : decode mi_X6_init.2.1 0 = .ok (.aload_n 0, 1) := by decide +kernel
theorem d_X6_init_1 : decode mi_X6_init.2.1 1 = .ok (.invokespecial 3, 3) := by decide +kernel
theorem d_X6_init_4 : decode mi_X6_init.2.1 4 = .ok (.aload_n 0, 1) := by decide +kernel
theorem d_X6_init_5 : decode mi_X6_init.2.1 5 = .ok (.bipush 60, 2) := by decide +kernel
theorem d_X6_init_7 : decode mi_X6_init.2.1 7 = .ok (.anewarray 11, 3) := by decide +kernel
theorem d_X6_init_10 : decode mi_X6_init.2.1 10 = .ok (.putfield 13, 3) := by decide +kernel
theorem d_X6_init_13 : decode mi_X6_init.2.1 13 = .ok (.return_, 1) := by decide +kernel
theorem co_X6_3 : CO RX6 3 := by unfold CO; decide +kernel
theorem kl_X6_11 : Cond.classLink RX6 11 "OctagonYard$Piece" ∈ mtbl := by decide +kernel
theorem fln_X6_13 : FL RX6 13 6 3 0 := ⟨RX6, TX6, rfl, by decide, rfl, by decide +kernel, inn_6⟩
theorem fi_6_0 : FI 6 3 0 (tyX6 0) := ⟨RX6, TX6, tyX6, rfl, by decide +kernel, tyX6_ok, nmX6⟩
set_option maxRecDepth 20000 in
theorem mc_X6_init {d : Nat} {B : Heap} : MC true (d + 1) (1, 60) mi_X6_init B 1 [.inl (7, [.null, .null, .null, .null]), .inl (6, [.null, .int 0, .int 0])] [.inl (7, [.null, .null, .null, .null]), .inl (6, [.ref (B.size + 2), .int 0, .int 0]), .inr (2, 60, fun _ => .null)] := by
  refine MC.of (by decide +kernel) rfl rfl (fun X Y => ?_)
  refine c_load0 (pc' := 1) d_X6_init_0 rfl ?_
  refine c_obj (pc' := 4) co_X6_3 d_X6_init_1 rfl rfl ?_
  refine c_load0 (pc' := 5) d_X6_init_4 rfl ?_
  refine c_bipush (pc' := 7) (x := 60) d_X6_init_5 (by decide) rfl ?_
  refine c_anew (b' := (0, 0)) (C := "OctagonYard$Piece") (t := 2) (N := 60) (pc' := 10) rfl rfl (by decide) kl_X6_11 d_X6_init_7 (by decide) (by decide) (by decide) rfl rfl rfl ?_
  refine c_put (j := 1) (pc' := 13) fln_X6_13 fi_6_0 rfl d_X6_init_10 rfl rfl rfl rfl rfl ?_
  exact c_ret d_X6_init_13 rfl rfl
def mi_X2_init : MI := (yX2_init, cX2_init, 1, none)
theorem d_X2_init_0 : decode mi_X2_init.2.1 0 = .ok (.aload_n 0, 1) := by decide +kernel
theorem d_X2_init_1 : decode mi_X2_init.2.1 1 = .ok (.invokespecial 3, 3) := by decide +kernel
theorem d_X2_init_4 : decode mi_X2_init.2.1 4 = .ok (.aload_n 0, 1) := by decide +kernel
theorem d_X2_init_5 : decode mi_X2_init.2.1 5 = .ok (.bipush 8, 2) := by decide +kernel
theorem d_X2_init_7 : decode mi_X2_init.2.1 7 = .ok (.newarray .int, 2) := by decide +kernel
theorem d_X2_init_9 : decode mi_X2_init.2.1 9 = .ok (.putfield 11, 3) := by decide +kernel
theorem d_X2_init_12 : decode mi_X2_init.2.1 12 = .ok (.aload_n 0, 1) := by decide +kernel
theorem d_X2_init_13 : decode mi_X2_init.2.1 13 = .ok (.bipush 8, 2) := by decide +kernel
theorem d_X2_init_15 : decode mi_X2_init.2.1 15 = .ok (.newarray .int, 2) := by decide +kernel
theorem d_X2_init_17 : decode mi_X2_init.2.1 17 = .ok (.putfield 15, 3) := by decide +kernel
theorem d_X2_init_20 : decode mi_X2_init.2.1 20 = .ok (.aload_n 0, 1) := by decide +kernel
theorem d_X2_init_21 : decode mi_X2_init.2.1 21 = .ok (.bipush 64, 2) := by decide +kernel
theorem d_X2_init_23 : decode mi_X2_init.2.1 23 = .ok (.newarray .int, 2) := by decide +kernel
theorem d_X2_init_25 : decode mi_X2_init.2.1 25 = .ok (.putfield 18, 3) := by decide +kernel
theorem d_X2_init_28 : decode mi_X2_init.2.1 28 = .ok (.aload_n 0, 1) := by decide +kernel
theorem d_X2_init_29 : decode mi_X2_init.2.1 29 = .ok (.bipush 7, 2) := by decide +kernel
theorem d_X2_init_31 : decode mi_X2_init.2.1 31 = .ok (.putfield 21, 3) := by decide +kernel
theorem d_X2_init_34 : decode mi_X2_init.2.1 34 = .ok (.return_, 1) := by decide +kernel
theorem co_X2_3 : CO RX2 3 := by unfold CO; decide +kernel
theorem fln_X2_11 : FL RX2 11 2 5 0 := ⟨RX2, TX2, rfl, by decide, rfl, by decide +kernel, inn_2⟩
theorem fi_2_0 : FI 2 5 0 (tyX2 0) := ⟨RX2, TX2, tyX2, rfl, by decide +kernel, tyX2_ok, nmX2⟩
theorem fln_X2_15 : FL RX2 15 2 5 1 := ⟨RX2, TX2, rfl, by decide, rfl, by decide +kernel, inn_2⟩
theorem fi_2_1 : FI 2 5 1 (tyX2 1) := ⟨RX2, TX2, tyX2, rfl, by decide +kernel, tyX2_ok, nmX2⟩
theorem fln_X2_18 : FL RX2 18 2 5 2 := ⟨RX2, TX2, rfl, by decide, rfl, by decide +kernel, inn_2⟩
theorem fi_2_2 : FI 2 5 2 (tyX2 2) := ⟨RX2, TX2, tyX2, rfl, by decide +kernel, tyX2_ok, nmX2⟩
theorem fln_X2_21 : FL RX2 21 2 5 3 := ⟨RX2, TX2, rfl, by decide, rfl, by decide +kernel, inn_2⟩
theorem fi_2_3 : FI 2 5 3 (tyX2 3) := ⟨RX2, TX2, tyX2, rfl, by decide +kernel, tyX2_ok, nmX2⟩
set_option maxRecDepth 20000 in
theorem mc_X2_init {d : Nat} {B : Heap} : MC true (d + 1) (3, 80) mi_X2_init B 3 [.inl (7, [.ref (B.size + 1), .null, .null, .null]), .inl (6, [.ref (B.size + 2), .int 0, .int 0]), .inr (2, 60, fun _ => .null), .inl (2, [.null, .null, .null, .int 0, .int 0])] [.inl (7, [.ref (B.size + 1), .null, .null, .null]), .inl (6, [.ref (B.size + 2), .int 0, .int 0]), .inr (2, 60, fun _ => .null), .inl (2, [.ref (B.size + 4), .ref (B.size + 5), .ref (B.size + 6), .int 7, .int 0]), .inr (0, 8, fun _ => .int 0), .inr (0, 8, fun _ => .int 0), .inr (0, 64, fun _ => .int 0)] := by
  refine MC.of (by decide +kernel) rfl rfl (fun X Y => ?_)
  refine c_load0 (pc' := 1) d_X2_init_0 rfl ?_
  refine c_obj (pc' := 4) co_X2_3 d_X2_init_1 rfl rfl ?_
  refine c_load0 (pc' := 5) d_X2_init_4 rfl ?_
  refine c_bipush (pc' := 7) (x := 8) d_X2_init_5 (by decide) rfl ?_
  refine c_newarr (b' := (2, 72)) (t := 0) (N := 8) (pc' := 9) rfl (by decide) ac_0 d_X2_init_7 (by decide) (by decide) (by decide) rfl rfl rfl ?_
  refine c_put (j := 3) (pc' := 12) fln_X2_11 fi_2_0 rfl d_X2_init_9 rfl rfl rfl rfl rfl ?_
  refine c_load0 (pc' := 13) d_X2_init_12 rfl ?_
  refine c_bipush (pc' := 15) (x := 8) d_X2_init_13 (by decide) rfl ?_
  refine c_newarr (b' := (1, 64)) (t := 0) (N := 8) (pc' := 17) rfl (by decide) ac_0 d_X2_init_15 (by decide) (by decide) (by decide) rfl rfl rfl ?_
  refine c_put (j := 3) (pc' := 20) fln_X2_15 fi_2_1 rfl d_X2_init_17 rfl rfl rfl rfl rfl ?_
  refine c_load0 (pc' := 21) d_X2_init_20 rfl ?_
  refine c_bipush (pc' := 23) (x := 64) d_X2_init_21 (by decide) rfl ?_
  refine c_newarr (b' := (0, 0)) (t := 0) (N := 64) (pc' := 25) rfl (by decide) ac_0 d_X2_init_23 (by decide) (by decide) (by decide) rfl rfl rfl ?_
  refine c_put (j := 3) (pc' := 28) fln_X2_18 fi_2_2 rfl d_X2_init_25 rfl rfl rfl rfl rfl ?_
  refine c_load0 (pc' := 29) d_X2_init_28 rfl ?_
  refine c_bipush (pc' := 31) (x := 7) d_X2_init_29 (by decide) rfl ?_
  refine c_put (j := 3) (pc' := 34) fln_X2_21 fi_2_3 rfl d_X2_init_31 rfl rfl rfl rfl rfl ?_
  exact c_ret d_X2_init_34 rfl rfl
def mi_X5_init : MI := (yX5_init, cX5_init, 1, none)
theorem d_X5_init_0 : decode mi_X5_init.2.1 0 = .ok (.aload_n 0, 1) := by decide +kernel
theorem d_X5_init_1 : decode mi_X5_init.2.1 1 = .ok (.invokespecial 3, 3) := by decide +kernel
theorem d_X5_init_4 : decode mi_X5_init.2.1 4 = .ok (.aload_n 0, 1) := by decide +kernel
theorem d_X5_init_5 : decode mi_X5_init.2.1 5 = .ok (.bipush 40, 2) := by decide +kernel
theorem d_X5_init_7 : decode mi_X5_init.2.1 7 = .ok (.newarray .int, 2) := by decide +kernel
theorem d_X5_init_9 : decode mi_X5_init.2.1 9 = .ok (.putfield 11, 3) := by decide +kernel
theorem d_X5_init_12 : decode mi_X5_init.2.1 12 = .ok (.aload_n 0, 1) := by decide +kernel
theorem d_X5_init_13 : decode mi_X5_init.2.1 13 = .ok (.bipush 40, 2) := by decide +kernel
theorem d_X5_init_15 : decode mi_X5_init.2.1 15 = .ok (.newarray .int, 2) := by decide +kernel
theorem d_X5_init_17 : decode mi_X5_init.2.1 17 = .ok (.putfield 15, 3) := by decide +kernel
theorem d_X5_init_20 : decode mi_X5_init.2.1 20 = .ok (.aload_n 0, 1) := by decide +kernel
theorem d_X5_init_21 : decode mi_X5_init.2.1 21 = .ok (.bipush 40, 2) := by decide +kernel
theorem d_X5_init_23 : decode mi_X5_init.2.1 23 = .ok (.newarray .int, 2) := by decide +kernel
theorem d_X5_init_25 : decode mi_X5_init.2.1 25 = .ok (.putfield 18, 3) := by decide +kernel
theorem d_X5_init_28 : decode mi_X5_init.2.1 28 = .ok (.aload_n 0, 1) := by decide +kernel
theorem d_X5_init_29 : decode mi_X5_init.2.1 29 = .ok (.bipush 40, 2) := by decide +kernel
theorem d_X5_init_31 : decode mi_X5_init.2.1 31 = .ok (.newarray .int, 2) := by decide +kernel
theorem d_X5_init_33 : decode mi_X5_init.2.1 33 = .ok (.putfield 21, 3) := by decide +kernel
theorem d_X5_init_36 : decode mi_X5_init.2.1 36 = .ok (.aload_n 0, 1) := by decide +kernel
theorem d_X5_init_37 : decode mi_X5_init.2.1 37 = .ok (.sipush 255, 3) := by decide +kernel
theorem d_X5_init_40 : decode mi_X5_init.2.1 40 = .ok (.putfield 24, 3) := by decide +kernel
theorem d_X5_init_43 : decode mi_X5_init.2.1 43 = .ok (.aload_n 0, 1) := by decide +kernel
theorem d_X5_init_44 : decode mi_X5_init.2.1 44 = .ok (.getfield 11, 3) := by decide +kernel
theorem d_X5_init_47 : decode mi_X5_init.2.1 47 = .ok (.iconst 0, 1) := by decide +kernel
theorem d_X5_init_48 : decode mi_X5_init.2.1 48 = .ok (.bipush 9, 2) := by decide +kernel
theorem d_X5_init_50 : decode mi_X5_init.2.1 50 = .ok (.iastore, 1) := by decide +kernel
theorem d_X5_init_51 : decode mi_X5_init.2.1 51 = .ok (.aload_n 0, 1) := by decide +kernel
theorem d_X5_init_52 : decode mi_X5_init.2.1 52 = .ok (.getfield 15, 3) := by decide +kernel
theorem d_X5_init_55 : decode mi_X5_init.2.1 55 = .ok (.iconst 0, 1) := by decide +kernel
theorem d_X5_init_56 : decode mi_X5_init.2.1 56 = .ok (.bipush 9, 2) := by decide +kernel
theorem d_X5_init_58 : decode mi_X5_init.2.1 58 = .ok (.iastore, 1) := by decide +kernel
theorem d_X5_init_59 : decode mi_X5_init.2.1 59 = .ok (.aload_n 0, 1) := by decide +kernel
theorem d_X5_init_60 : decode mi_X5_init.2.1 60 = .ok (.getfield 18, 3) := by decide +kernel
theorem d_X5_init_63 : decode mi_X5_init.2.1 63 = .ok (.iconst 0, 1) := by decide +kernel
theorem d_X5_init_64 : decode mi_X5_init.2.1 64 = .ok (.iconst 1, 1) := by decide +kernel
theorem d_X5_init_65 : decode mi_X5_init.2.1 65 = .ok (.iastore, 1) := by decide +kernel
theorem d_X5_init_66 : decode mi_X5_init.2.1 66 = .ok (.aload_n 0, 1) := by decide +kernel
theorem d_X5_init_67 : decode mi_X5_init.2.1 67 = .ok (.iconst 1, 1) := by decide +kernel
theorem d_X5_init_68 : decode mi_X5_init.2.1 68 = .ok (.putfield 28, 3) := by decide +kernel
theorem d_X5_init_71 : decode mi_X5_init.2.1 71 = .ok (.return_, 1) := by decide +kernel
theorem co_X5_3 : CO RX5 3 := by unfold CO; decide +kernel
theorem fln_X5_11 : FL RX5 11 5 6 0 := ⟨RX5, TX5, rfl, by decide, rfl, by decide +kernel, inn_5⟩
theorem fi_5_0 : FI 5 6 0 (tyX5 0) := ⟨RX5, TX5, tyX5, rfl, by decide +kernel, tyX5_ok, nmX5⟩
theorem fln_X5_15 : FL RX5 15 5 6 1 := ⟨RX5, TX5, rfl, by decide, rfl, by decide +kernel, inn_5⟩
theorem fi_5_1 : FI 5 6 1 (tyX5 1) := ⟨RX5, TX5, tyX5, rfl, by decide +kernel, tyX5_ok, nmX5⟩
theorem fln_X5_18 : FL RX5 18 5 6 2 := ⟨RX5, TX5, rfl, by decide, rfl, by decide +kernel, inn_5⟩
theorem fi_5_2 : FI 5 6 2 (tyX5 2) := ⟨RX5, TX5, tyX5, rfl, by decide +kernel, tyX5_ok, nmX5⟩
theorem fln_X5_21 : FL RX5 21 5 6 3 := ⟨RX5, TX5, rfl, by decide, rfl, by decide +kernel, inn_5⟩
theorem fi_5_3 : FI 5 6 3 (tyX5 3) := ⟨RX5, TX5, tyX5, rfl, by decide +kernel, tyX5_ok, nmX5⟩
theorem fln_X5_24 : FL RX5 24 5 6 5 := ⟨RX5, TX5, rfl, by decide, rfl, by decide +kernel, inn_5⟩
theorem fi_5_5 : FI 5 6 5 (tyX5 5) := ⟨RX5, TX5, tyX5, rfl, by decide +kernel, tyX5_ok, nmX5⟩
theorem fln_X5_28 : FL RX5 28 5 6 4 := ⟨RX5, TX5, rfl, by decide, rfl, by decide +kernel, inn_5⟩
theorem fi_5_4 : FI 5 6 4 (tyX5 4) := ⟨RX5, TX5, tyX5, rfl, by decide +kernel, tyX5_ok, nmX5⟩
set_option maxRecDepth 20000 in
theorem mc_X5_init {d : Nat} {B : Heap} : MC true (d + 1) (4, 160) mi_X5_init B 7 [.inl (7, [.ref (B.size + 1), .ref (B.size + 3), .null, .null]), .inl (6, [.ref (B.size + 2), .int 0, .int 0]), .inr (2, 60, fun _ => .null), .inl (2, [.ref (B.size + 4), .ref (B.size + 5), .ref (B.size + 6), .int 7, .int 0]), .inr (0, 8, fun _ => .int 0), .inr (0, 8, fun _ => .int 0), .inr (0, 64, fun _ => .int 0), .inl (5, [.null, .null, .null, .null, .int 0, .int 0])] [.inl (7, [.ref (B.size + 1), .ref (B.size + 3), .null, .null]), .inl (6, [.ref (B.size + 2), .int 0, .int 0]), .inr (2, 60, fun _ => .null), .inl (2, [.ref (B.size + 4), .ref (B.size + 5), .ref (B.size + 6), .int 7, .int 0]), .inr (0, 8, fun _ => .int 0), .inr (0, 8, fun _ => .int 0), .inr (0, 64, fun _ => .int 0), .inl (5, [.ref (B.size + 8), .ref (B.size + 9), .ref (B.size + 10), .ref (B.size + 11), .int 1, .int 255]), .inr (0, 40, updV (fun _ => .int 0) (ix 0) (.int 9)), .inr (0, 40, updV (fun _ => .int 0) (ix 0) (.int 9)), .inr (0, 40, updV (fun _ => .int 0) (ix 0) (.int 1)), .inr (0, 40, fun _ => .int 0)] := by
  refine MC.of (by decide +kernel) rfl rfl (fun X Y => ?_)
  refine c_load0 (pc' := 1) d_X5_init_0 rfl ?_
  refine c_obj (pc' := 4) co_X5_3 d_X5_init_1 rfl rfl ?_
  refine c_load0 (pc' := 5) d_X5_init_4 rfl ?_
  refine c_bipush (pc' := 7) (x := 40) d_X5_init_5 (by decide) rfl ?_
  refine c_newarr (b' := (3, 120)) (t := 0) (N := 40) (pc' := 9) rfl (by decide) ac_0 d_X5_init_7 (by decide) (by decide) (by decide) rfl rfl rfl ?_
  refine c_put (j := 7) (pc' := 12) fln_X5_11 fi_5_0 rfl d_X5_init_9 rfl rfl rfl rfl rfl ?_
  refine c_load0 (pc' := 13) d_X5_init_12 rfl ?_
  refine c_bipush (pc' := 15) (x := 40) d_X5_init_13 (by decide) rfl ?_
  refine c_newarr (b' := (2, 80)) (t := 0) (N := 40) (pc' := 17) rfl (by decide) ac_0 d_X5_init_15 (by decide) (by decide) (by decide) rfl rfl rfl ?_
  refine c_put (j := 7) (pc' := 20) fln_X5_15 fi_5_1 rfl d_X5_init_17 rfl rfl rfl rfl rfl ?_
  refine c_load0 (pc' := 21) d_X5_init_20 rfl ?_
  refine c_bipush (pc' := 23) (x := 40) d_X5_init_21 (by decide) rfl ?_
  refine c_newarr (b' := (1, 40)) (t := 0) (N := 40) (pc' := 25) rfl (by decide) ac_0 d_X5_init_23 (by decide) (by decide) (by decide) rfl rfl rfl ?_
  refine c_put (j := 7) (pc' := 28) fln_X5_18 fi_5_2 rfl d_X5_init_25 rfl rfl rfl rfl rfl ?_
  refine c_load0 (pc' := 29) d_X5_init_28 rfl ?_
  refine c_bipush (pc' := 31) (x := 40) d_X5_init_29 (by decide) rfl ?_
  refine c_newarr (b' := (0, 0)) (t := 0) (N := 40) (pc' := 33) rfl (by decide) ac_0 d_X5_init_31 (by decide) (by decide) (by decide) rfl rfl rfl ?_
  refine c_put (j := 7) (pc' := 36) fln_X5_21 fi_5_3 rfl d_X5_init_33 rfl rfl rfl rfl rfl ?_
  refine c_load0 (pc' := 37) d_X5_init_36 rfl ?_
  refine c_sipush (pc' := 40) (x := 255) d_X5_init_37 (by decide) rfl ?_
  refine c_put (j := 7) (pc' := 43) fln_X5_24 fi_5_5 rfl d_X5_init_40 rfl rfl rfl rfl rfl ?_
  refine c_load0 (pc' := 44) d_X5_init_43 rfl ?_
  refine c_get (j := 7) (v := .ref (B.size + 8)) (pc' := 47) fln_X5_11 d_X5_init_44 rfl rfl rfl rfl ?_
  refine c_iconst (pc' := 48) (x := 0) d_X5_init_47 (by decide) rfl ?_
  refine c_bipush (pc' := 50) (x := 9) d_X5_init_48 (by decide) rfl ?_
  refine c_iast (j := 8) (pc' := 51) d_X5_init_50 rfl (by decide) rfl ?_
  refine c_load0 (pc' := 52) d_X5_init_51 rfl ?_
  refine c_get (j := 7) (v := .ref (B.size + 9)) (pc' := 55) fln_X5_15 d_X5_init_52 rfl rfl rfl rfl ?_
  refine c_iconst (pc' := 56) (x := 0) d_X5_init_55 (by decide) rfl ?_
  refine c_bipush (pc' := 58) (x := 9) d_X5_init_56 (by decide) rfl ?_
  refine c_iast (j := 9) (pc' := 59) d_X5_init_58 rfl (by decide) rfl ?_
  refine c_load0 (pc' := 60) d_X5_init_59 rfl ?_
  refine c_get (j := 7) (v := .ref (B.size + 10)) (pc' := 63) fln_X5_18 d_X5_init_60 rfl rfl rfl rfl ?_
  refine c_iconst (pc' := 64) (x := 0) d_X5_init_63 (by decide) rfl ?_
  refine c_iconst (pc' := 65) (x := 1) d_X5_init_64 (by decide) rfl ?_
  refine c_iast (j := 10) (pc' := 66) d_X5_init_65 rfl (by decide) rfl ?_
  refine c_load0 (pc' := 67) d_X5_init_66 rfl ?_
  refine c_iconst (pc' := 68) (x := 1) d_X5_init_67 (by decide) rfl ?_
  refine c_put (j := 7) (pc' := 71) fln_X5_28 fi_5_4 rfl d_X5_init_68 rfl rfl rfl rfl rfl ?_
  exact c_ret d_X5_init_71 rfl rfl
def mi_X0_init : MI := (yX0_init, cX0_init, 1, none)
theorem d_X0_init_0 : decode mi_X0_init.2.1 0 = .ok (.aload_n 0, 1) := by decide +kernel
theorem d_X0_init_1 : decode mi_X0_init.2.1 1 = .ok (.invokespecial 3, 3) := by decide +kernel
theorem d_X0_init_4 : decode mi_X0_init.2.1 4 = .ok (.aload_n 0, 1) := by decide +kernel
theorem d_X0_init_5 : decode mi_X0_init.2.1 5 = .ok (.bipush 12, 2) := by decide +kernel
theorem d_X0_init_7 : decode mi_X0_init.2.1 7 = .ok (.anewarray 11, 3) := by decide +kernel
theorem d_X0_init_10 : decode mi_X0_init.2.1 10 = .ok (.putfield 13, 3) := by decide +kernel
theorem d_X0_init_13 : decode mi_X0_init.2.1 13 = .ok (.aload_n 0, 1) := by decide +kernel
theorem d_X0_init_14 : decode mi_X0_init.2.1 14 = .ok (.sipush 500, 3) := by decide +kernel
theorem d_X0_init_17 : decode mi_X0_init.2.1 17 = .ok (.newarray .int, 2) := by decide +kernel
theorem d_X0_init_19 : decode mi_X0_init.2.1 19 = .ok (.putfield 17, 3) := by decide +kernel
theorem d_X0_init_22 : decode mi_X0_init.2.1 22 = .ok (.aload_n 0, 1) := by decide +kernel
theorem d_X0_init_23 : decode mi_X0_init.2.1 23 = .ok (.bipush 12, 2) := by decide +kernel
theorem d_X0_init_25 : decode mi_X0_init.2.1 25 = .ok (.newarray .int, 2) := by decide +kernel
theorem d_X0_init_27 : decode mi_X0_init.2.1 27 = .ok (.putfield 21, 3) := by decide +kernel
theorem d_X0_init_30 : decode mi_X0_init.2.1 30 = .ok (.return_, 1) := by decide +kernel
theorem co_X0_3 : CO RX0 3 := by unfold CO; decide +kernel
theorem kl_X0_11 : Cond.classLink RX0 11 "OctagonYard$Assembly" ∈ mtbl := by decide +kernel
theorem fln_X0_13 : FL RX0 13 0 5 0 := ⟨RX0, TX0, rfl, by decide, rfl, by decide +kernel, inn_0⟩
theorem fi_0_0 : FI 0 5 0 (tyX0 0) := ⟨RX0, TX0, tyX0, rfl, by decide +kernel, tyX0_ok, nmX0⟩
theorem fln_X0_17 : FL RX0 17 0 5 2 := ⟨RX0, TX0, rfl, by decide, rfl, by decide +kernel, inn_0⟩
theorem fi_0_2 : FI 0 5 2 (tyX0 2) := ⟨RX0, TX0, tyX0, rfl, by decide +kernel, tyX0_ok, nmX0⟩
theorem fln_X0_21 : FL RX0 21 0 5 4 := ⟨RX0, TX0, rfl, by decide, rfl, by decide +kernel, inn_0⟩
theorem fi_0_4 : FI 0 5 4 (tyX0 4) := ⟨RX0, TX0, tyX0, rfl, by decide +kernel, tyX0_ok, nmX0⟩
set_option maxRecDepth 20000 in
theorem mc_X0_init {d : Nat} {B : Heap} : MC true (d + 1) (3, 524) mi_X0_init B 12 [.inl (7, [.ref (B.size + 1), .ref (B.size + 3), .ref (B.size + 7), .null]), .inl (6, [.ref (B.size + 2), .int 0, .int 0]), .inr (2, 60, fun _ => .null), .inl (2, [.ref (B.size + 4), .ref (B.size + 5), .ref (B.size + 6), .int 7, .int 0]), .inr (0, 8, fun _ => .int 0), .inr (0, 8, fun _ => .int 0), .inr (0, 64, fun _ => .int 0), .inl (5, [.ref (B.size + 8), .ref (B.size + 9), .ref (B.size + 10), .ref (B.size + 11), .int 1, .int 255]), .inr (0, 40, updV (fun _ => .int 0) (ix 0) (.int 9)), .inr (0, 40, updV (fun _ => .int 0) (ix 0) (.int 9)), .inr (0, 40, updV (fun _ => .int 0) (ix 0) (.int 1)), .inr (0, 40, fun _ => .int 0), .inl (0, [.null, .int 0, .null, .int 0, .null])] [.inl (7, [.ref (B.size + 1), .ref (B.size + 3), .ref (B.size + 7), .null]), .inl (6, [.ref (B.size + 2), .int 0, .int 0]), .inr (2, 60, fun _ => .null), .inl (2, [.ref (B.size + 4), .ref (B.size + 5), .ref (B.size + 6), .int 7, .int 0]), .inr (0, 8, fun _ => .int 0), .inr (0, 8, fun _ => .int 0), .inr (0, 64, fun _ => .int 0), .inl (5, [.ref (B.size + 8), .ref (B.size + 9), .ref (B.size + 10), .ref (B.size + 11), .int 1, .int 255]), .inr (0, 40, updV (fun _ => .int 0) (ix 0) (.int 9)), .inr (0, 40, updV (fun _ => .int 0) (ix 0) (.int 9)), .inr (0, 40, updV (fun _ => .int 0) (ix 0) (.int 1)), .inr (0, 40, fun _ => .int 0), .inl (0, [.ref (B.size + 13), .int 0, .ref (B.size + 14), .int 0, .ref (B.size + 15)]), .inr (3, 12, fun _ => .null), .inr (0, 500, fun _ => .int 0), .inr (0, 12, fun _ => .int 0)] := by
  refine MC.of (by decide +kernel) rfl rfl (fun X Y => ?_)
  refine c_load0 (pc' := 1) d_X0_init_0 rfl ?_
  refine c_obj (pc' := 4) co_X0_3 d_X0_init_1 rfl rfl ?_
  refine c_load0 (pc' := 5) d_X0_init_4 rfl ?_
  refine c_bipush (pc' := 7) (x := 12) d_X0_init_5 (by decide) rfl ?_
  refine c_anew (b' := (2, 512)) (C := "OctagonYard$Assembly") (t := 3) (N := 12) (pc' := 10) rfl rfl (by decide) kl_X0_11 d_X0_init_7 (by decide) (by decide) (by decide) rfl rfl rfl ?_
  refine c_put (j := 12) (pc' := 13) fln_X0_13 fi_0_0 rfl d_X0_init_10 rfl rfl rfl rfl rfl ?_
  refine c_load0 (pc' := 14) d_X0_init_13 rfl ?_
  refine c_sipush (pc' := 17) (x := 500) d_X0_init_14 (by decide) rfl ?_
  refine c_newarr (b' := (1, 12)) (t := 0) (N := 500) (pc' := 19) rfl (by decide) ac_0 d_X0_init_17 (by decide) (by decide) (by decide) rfl rfl rfl ?_
  refine c_put (j := 12) (pc' := 22) fln_X0_17 fi_0_2 rfl d_X0_init_19 rfl rfl rfl rfl rfl ?_
  refine c_load0 (pc' := 23) d_X0_init_22 rfl ?_
  refine c_bipush (pc' := 25) (x := 12) d_X0_init_23 (by decide) rfl ?_
  refine c_newarr (b' := (0, 0)) (t := 0) (N := 12) (pc' := 27) rfl (by decide) ac_0 d_X0_init_25 (by decide) (by decide) (by decide) rfl rfl rfl ?_
  refine c_put (j := 12) (pc' := 30) fln_X0_21 fi_0_4 rfl d_X0_init_27 rfl rfl rfl rfl rfl ?_
  exact c_ret d_X0_init_30 rfl rfl
def mi_X7_init : MI := (yX7_init, cX7_init, 1, none)
theorem d_X7_init_0 : decode mi_X7_init.2.1 0 = .ok (.aload_n 0, 1) := by decide +kernel
theorem d_X7_init_1 : decode mi_X7_init.2.1 1 = .ok (.invokespecial 1, 3) := by decide +kernel
theorem d_X7_init_4 : decode mi_X7_init.2.1 4 = .ok (.aload_n 0, 1) := by decide +kernel
theorem d_X7_init_5 : decode mi_X7_init.2.1 5 = .ok (.new 7, 3) := by decide +kernel
theorem d_X7_init_8 : decode mi_X7_init.2.1 8 = .ok (.dup, 1) := by decide +kernel
theorem d_X7_init_9 : decode mi_X7_init.2.1 9 = .ok (.invokespecial 9, 3) := by decide +kernel
theorem d_X7_init_12 : decode mi_X7_init.2.1 12 = .ok (.putfield 10, 3) := by decide +kernel
theorem d_X7_init_15 : decode mi_X7_init.2.1 15 = .ok (.aload_n 0, 1) := by decide +kernel
theorem d_X7_init_16 : decode mi_X7_init.2.1 16 = .ok (.new 16, 3) := by decide +kernel
theorem d_X7_init_19 : decode mi_X7_init.2.1 19 = .ok (.dup, 1) := by decide +kernel
theorem d_X7_init_20 : decode mi_X7_init.2.1 20 = .ok (.invokespecial 18, 3) := by decide +kernel
theorem d_X7_init_23 : decode mi_X7_init.2.1 23 = .ok (.putfield 19, 3) := by decide +kernel
theorem d_X7_init_26 : decode mi_X7_init.2.1 26 = .ok (.aload_n 0, 1) := by decide +kernel
theorem d_X7_init_27 : decode mi_X7_init.2.1 27 = .ok (.new 23, 3) := by decide +kernel
theorem d_X7_init_30 : decode mi_X7_init.2.1 30 = .ok (.dup, 1) := by decide +kernel
theorem d_X7_init_31 : decode mi_X7_init.2.1 31 = .ok (.invokespecial 25, 3) := by decide +kernel
theorem d_X7_init_34 : decode mi_X7_init.2.1 34 = .ok (.putfield 26, 3) := by decide +kernel
theorem d_X7_init_37 : decode mi_X7_init.2.1 37 = .ok (.aload_n 0, 1) := by decide +kernel
theorem d_X7_init_38 : decode mi_X7_init.2.1 38 = .ok (.new 30, 3) := by decide +kernel
theorem d_X7_init_41 : decode mi_X7_init.2.1 41 = .ok (.dup, 1) := by decide +kernel
theorem d_X7_init_42 : decode mi_X7_init.2.1 42 = .ok (.invokespecial 32, 3) := by decide +kernel
theorem d_X7_init_45 : decode mi_X7_init.2.1 45 = .ok (.putfield 33, 3) := by decide +kernel
theorem d_X7_init_48 : decode mi_X7_init.2.1 48 = .ok (.return_, 1) := by decide +kernel
theorem co_X7_1 : CO RX7 1 := by unfold CO; decide +kernel
theorem cbn_X7_7 : CB RX7 7 6 3 [.null, .int 0, .int 0] := ⟨RX6, TX6, tyX6, rfl, by decide +kernel, by decide +kernel, by decide +kernel, inn_6, tyX6_ok, rfl, by decide +kernel⟩
theorem kn_X7_9 : KN RX7 9 "OctagonYard" mi_X6_init := by unfold KN; decide +kernel
theorem fln_X7_10 : FL RX7 10 7 4 0 := ⟨RX7, TX7, rfl, by decide, rfl, by decide +kernel, inn_7⟩
theorem fi_7_0 : FI 7 4 0 (tyX7 0) := ⟨RX7, TX7, tyX7, rfl, by decide +kernel, tyX7_ok, nmX7⟩
theorem cbn_X7_16 : CB RX7 16 2 5 [.null, .null, .null, .int 0, .int 0] := ⟨RX2, TX2, tyX2, rfl, by decide +kernel, by decide +kernel, by decide +kernel, inn_2, tyX2_ok, rfl, by decide +kernel⟩
theorem kn_X7_18 : KN RX7 18 "OctagonYard" mi_X2_init := by unfold KN; decide +kernel
theorem fln_X7_19 : FL RX7 19 7 4 1 := ⟨RX7, TX7, rfl, by decide, rfl, by decide +kernel, inn_7⟩
theorem fi_7_1 : FI 7 4 1 (tyX7 1) := ⟨RX7, TX7, tyX7, rfl, by decide +kernel, tyX7_ok, nmX7⟩
theorem cbn_X7_23 : CB RX7 23 5 6 [.null, .null, .null, .null, .int 0, .int 0] := ⟨RX5, TX5, tyX5, rfl, by decide +kernel, by decide +kernel, by decide +kernel, inn_5, tyX5_ok, rfl, by decide +kernel⟩
theorem kn_X7_25 : KO RX7 25 mi_X5_init := by unfold KO; decide +kernel
theorem fln_X7_26 : FL RX7 26 7 4 2 := ⟨RX7, TX7, rfl, by decide, rfl, by decide +kernel, inn_7⟩
theorem fi_7_2 : FI 7 4 2 (tyX7 2) := ⟨RX7, TX7, tyX7, rfl, by decide +kernel, tyX7_ok, nmX7⟩
theorem cbn_X7_30 : CB RX7 30 0 5 [.null, .int 0, .null, .int 0, .null] := ⟨RX0, TX0, tyX0, rfl, by decide +kernel, by decide +kernel, by decide +kernel, inn_0, tyX0_ok, rfl, by decide +kernel⟩
theorem kn_X7_32 : KN RX7 32 "OctagonYard" mi_X0_init := by unfold KN; decide +kernel
theorem fln_X7_33 : FL RX7 33 7 4 3 := ⟨RX7, TX7, rfl, by decide, rfl, by decide +kernel, inn_7⟩
theorem fi_7_3 : FI 7 4 3 (tyX7 3) := ⟨RX7, TX7, tyX7, rfl, by decide +kernel, tyX7_ok, nmX7⟩
set_option maxRecDepth 20000 in
theorem mc_X7_init {d : Nat} {B : Heap} : MC true (d + 2) (15, 843) mi_X7_init B 0 [.inl (7, [.null, .null, .null, .null])] [.inl (7, [.ref (B.size + 1), .ref (B.size + 3), .ref (B.size + 7), .ref (B.size + 12)]), .inl (6, [.ref (B.size + 2), .int 0, .int 0]), .inr (2, 60, fun _ => .null), .inl (2, [.ref (B.size + 4), .ref (B.size + 5), .ref (B.size + 6), .int 7, .int 0]), .inr (0, 8, fun _ => .int 0), .inr (0, 8, fun _ => .int 0), .inr (0, 64, fun _ => .int 0), .inl (5, [.ref (B.size + 8), .ref (B.size + 9), .ref (B.size + 10), .ref (B.size + 11), .int 1, .int 255]), .inr (0, 40, updV (fun _ => .int 0) (ix 0) (.int 9)), .inr (0, 40, updV (fun _ => .int 0) (ix 0) (.int 9)), .inr (0, 40, updV (fun _ => .int 0) (ix 0) (.int 1)), .inr (0, 40, fun _ => .int 0), .inl (0, [.ref (B.size + 13), .int 0, .ref (B.size + 14), .int 0, .ref (B.size + 15)]), .inr (3, 12, fun _ => .null), .inr (0, 500, fun _ => .int 0), .inr (0, 12, fun _ => .int 0)] := by
  refine MC.of (by decide +kernel) rfl rfl (fun X Y => ?_)
  refine c_load0 (pc' := 1) d_X7_init_0 rfl ?_
  refine c_obj (pc' := 4) co_X7_1 d_X7_init_1 rfl rfl ?_
  refine c_load0 (pc' := 5) d_X7_init_4 rfl ?_
  refine c_new (b' := (14, 840)) (pc' := 8) cbn_X7_7 d_X7_init_5 rfl rfl rfl ?_
  refine c_dup (pc' := 9) d_X7_init_8 rfl rfl ?_
  refine c_call (b' := (13, 780)) (bc := (1, 60)) (j := 1) (pc' := 12) rfl rfl rfl rfl (fun ok hA {H} {locs} {ls} {cells slots} hC hl hr hc hs => w_ctorN kn_X7_9 (mc_X6_init (B := B)) d_X7_init_9 ok hA hC hl hr hc hs) ?_
  refine c_put (j := 0) (pc' := 15) fln_X7_10 fi_7_0 rfl d_X7_init_12 rfl rfl rfl rfl rfl ?_
  refine c_load0 (pc' := 16) d_X7_init_15 rfl ?_
  refine c_new (b' := (12, 775)) (pc' := 19) cbn_X7_16 d_X7_init_16 rfl rfl rfl ?_
  refine c_dup (pc' := 20) d_X7_init_19 rfl rfl ?_
  refine c_call (b' := (9, 695)) (bc := (3, 80)) (j := 3) (pc' := 23) rfl rfl rfl rfl (fun ok hA {H} {locs} {ls} {cells slots} hC hl hr hc hs => w_ctorN kn_X7_18 (mc_X2_init (B := B)) d_X7_init_20 ok hA hC hl hr hc hs) ?_
  refine c_put (j := 0) (pc' := 26) fln_X7_19 fi_7_1 rfl d_X7_init_23 rfl rfl rfl rfl rfl ?_
  refine c_load0 (pc' := 27) d_X7_init_26 rfl ?_
  refine c_new (b' := (8, 689)) (pc' := 30) cbn_X7_23 d_X7_init_27 rfl rfl rfl ?_
  refine c_dup (pc' := 31) d_X7_init_30 rfl rfl ?_
  refine c_call (b' := (4, 529)) (bc := (4, 160)) (j := 7) (pc' := 34) rfl rfl rfl rfl (fun ok hA {H} {locs} {ls} {cells slots} hC hl hr hc hs => w_ctorO kn_X7_25 (mc_X5_init (B := B)) d_X7_init_31 ok hA hC hl hr hc hs) ?_
  refine c_put (j := 0) (pc' := 37) fln_X7_26 fi_7_2 rfl d_X7_init_34 rfl rfl rfl rfl rfl ?_
  refine c_load0 (pc' := 38) d_X7_init_37 rfl ?_
  refine c_new (b' := (3, 524)) (pc' := 41) cbn_X7_30 d_X7_init_38 rfl rfl rfl ?_
  refine c_dup (pc' := 42) d_X7_init_41 rfl rfl ?_
  refine c_call (b' := (0, 0)) (bc := (3, 524)) (j := 12) (pc' := 45) rfl rfl rfl rfl (fun ok hA {H} {locs} {ls} {cells slots} hC hl hr hc hs => w_ctorN kn_X7_32 (mc_X0_init (B := B)) d_X7_init_42 ok hA hC hl hr hc hs) ?_
  refine c_put (j := 0) (pc' := 48) fln_X7_33 fi_7_3 rfl d_X7_init_45 rfl rfl rfl rfl rfl ?_
  exact c_ret d_X7_init_48 rfl rfl
