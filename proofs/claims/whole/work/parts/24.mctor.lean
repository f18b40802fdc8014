/-! ===== the model's constructor ===== -/
def WD (ao : Bool) (d : Nat) (X : MX) (Y : MY) (b : Nat × Nat) (mi : MI) (pc : Nat) (B : Heap) (i : Nat) (st : List Value) (ns : List NC) (QQ : Array Value → State → Outcome → State → Prop) : Prop :=
  okX d X Y mi → AO2 ao X.2.2.2.2.1 → X.2.2.2.2.2.2.2.2.1.name = "<init>" → ∀ (H : Heap) (locs : List Loc) (ls : Array Slot) (cells slots : Nat), CR Y.1 B ns H → (∀ q ∈ locs, B.size ≤ q.base) → lok0 ls mi.2.2.1 (B.size + i) → cells + b.1 = X.2.2.2.1.cells → slots + b.2 = X.2.2.2.1.slots →
    W X.1 X.2.1 X.2.2.1 X.2.2.2.1 X.2.2.2.2.1 X.2.2.2.2.2.1 X.2.2.2.2.2.2.1 X.2.2.2.2.2.2.2.1 X.2.2.2.2.2.2.2.2.1 X.2.2.2.2.2.2.2.2.2 H locs cells slots
      (MQ X.2.2.2.2.2.2.2.1 QQ X.2.2.2.2.2.2.1 X.2.2.2.2.1 X.2.2.2.1.cells X.2.2.2.1.slots (fun q => B.size ≤ q)) (F0 X.2.2.2.2.2.1 pc ls st)
theorem e_norm {ao : Bool} {d : Nat} {X : MX} {Y : MY} {b : Nat × Nat} {mi : MI} {pc : Nat} {B : Heap} {i : Nat} {st : List Value} {ns ns' : List NC} {QQ : Array Value → State → Outcome → State → Prop} (he : ns = ns') (k : WD ao d X Y b mi pc B i st ns' QQ) : WD ao d X Y b mi pc B i st ns QQ := he ▸ k
section DROWS
variable {ao : Bool} {d : Nat} {X : MX} {Y : MY} {b b' bc : Nat × Nat} {mi mc : MI} {pc pc' : Nat} {B : Heap} {i : Nat} {st : List Value} {ns ns' : List NC} {QQ : Array Value → State → Outcome → State → Prop}
theorem e_load0 (hd : decode mi.2.1 pc = .ok (.aload_n 0, 1)) (hp : pc + 1 = pc') (k : WD ao d X Y b mi pc' B i (.ref (B.size + i) :: st) ns QQ) : WD ao d X Y b mi pc B i st ns QQ := by
  subst hp
  intro ok hA hn H locs ls cells slots hC hL hl hc hs
  exact lv_aload_n ok.1 ok.2.1 hd rfl hl.2.2 (k ok hA hn H locs ls cells slots hC hL hl hc hs)
theorem e_iconst {n : Int} {x : Int32} (hd : decode mi.2.1 pc = .ok (.iconst n, 1)) (hv : Int32.ofInt n = x) (hp : pc + 1 = pc') (k : WD ao d X Y b mi pc' B i (.int x :: st) ns QQ) : WD ao d X Y b mi pc B i st ns QQ := by
  subst hp
  intro ok hA hn H locs ls cells slots hC hL hl hc hs
  exact lv_iconst ok.1 ok.2.1 hd hv (k ok hA hn H locs ls cells slots hC hL hl hc hs)
theorem e_bipush {n : Int} {x : Int32} (hd : decode mi.2.1 pc = .ok (.bipush n, 2)) (hv : (Int8.ofInt n).toInt32 = x) (hp : pc + 2 = pc') (k : WD ao d X Y b mi pc' B i (.int x :: st) ns QQ) : WD ao d X Y b mi pc B i st ns QQ := by
  subst hp
  intro ok hA hn H locs ls cells slots hC hL hl hc hs
  exact lv_bipush ok.1 ok.2.1 hd hv (k ok hA hn H locs ls cells slots hC hL hl hc hs)
theorem e_sipush {n : Int} {x : Int32} (hd : decode mi.2.1 pc = .ok (.sipush n, 3)) (hv : (Int16.ofInt n).toInt32 = x) (hp : pc + 3 = pc') (k : WD ao d X Y b mi pc' B i (.int x :: st) ns QQ) : WD ao d X Y b mi pc B i st ns QQ := by
  subst hp
  intro ok hA hn H locs ls cells slots hC hL hl hc hs
  exact lv_sipush ok.1 ok.2.1 hd hv (k ok hA hn H locs ls cells slots hC hL hl hc hs)
theorem e_dup {v : Value} (hd : decode mi.2.1 pc = .ok (.dup, 1)) (hv : v.category = 1) (hp : pc + 1 = pc') (k : WD ao d X Y b mi pc' B i (v :: v :: st) ns QQ) : WD ao d X Y b mi pc B i (v :: st) ns QQ := by
  subst hp
  intro ok hA hn H locs ls cells slots hC hL hl hc hs
  exact lv_dup ok.1 ok.2.1 hd hv (k ok hA hn H locs ls cells slots hC hL hl hc hs)
theorem e_obj {idx : Nat} {a : Nat} (hw : CO mi.1.cls idx) (hd : decode mi.2.1 pc = .ok (.invokespecial idx, 3)) (hr : Nat.ble ((st.map fun v => v.category).sum) 8 = true) (hp : pc + 3 = pc') (k : WD ao (d + 1) X Y b mi pc' B i st ns QQ) : WD ao (d + 1) X Y b mi pc B i (.ref a :: st) ns QQ := by
  subst hp
  intro ok hA hn H locs ls cells slots hC hL hl hc hs
  have hr' := Nat.le_of_ble_eq_true hr
  exact W.objInit ok.1 ok.2.1 ok.own (ok.hts _ hw.1) (ok.hts _ hw.2.1) (ok.hts _ hw.2.2) rfl (by rw [ok.2.2.2.1]; exact hl.1) rfl hd (by have hlc := ok.2.2.2.2.2.2.2.1; omega) (by have hlc := ok.2.2.2.2.2.2.2.2; show 2 * 0 + _ + 12 ≤ _; omega) (k ok hA hn H locs ls cells slots hC hL hl hc hs)
theorem e_newarr {aty0 : ArrayType} {t N : Nat} {n : Int32} (hT : newarray.typeOf aty0 = aty t) (ht : t < 2) (hw : Cond.arrayClass (aty t) ∈ mtbl) (hd : decode mi.2.1 pc = .ok (.newarray aty0, 2)) (hn0 : ¬ n < 0) (hN : n.toNatClampNeg = N) (hby : N ≤ 1000) (hb1 : b.1 = 1 + b'.1) (hb2 : b.2 = N + b'.2) (hp : pc + 2 = pc') (k : WD ao d X Y b' mi pc' B i (.ref (B.size + ns.length) :: st) (ns ++ [.inr (t, N, fun _ => .int 0)]) QQ) : WD ao d X Y b mi pc B i (.int n :: st) ns QQ := by
  subst hp
  intro ok hA hn H locs ls cells slots hC hL hl hc hs
  have hw' := ok.hts _ hw
  rw [← hT] at hw'
  have hcb : componentBytes (newarray.typeOf aty0) ≤ 8 := by cases aty0 <;> decide
  have hdv : defaultValue (newarray.typeOf aty0) = .int 0 := by
    rw [hT]
    rcases (show t = 0 ∨ t = 1 by omega) with rfl | rfl <;> rfl
  have hmul : N * componentBytes (newarray.typeOf aty0) ≤ 8000 := by
    calc N * componentBytes (newarray.typeOf aty0) ≤ 1000 * 8 := Nat.mul_le_mul hby hcb
      _ = 8000 := rfl
  subst hN
  refine W.newa ok.1 ok.2.1 hw' rfl hd rfl hn0 (by omega) (by omega) (by omega) fun cA kA comp h1 h2 h3 => ?_
  have hcA : cA = Y.1.2.1 t := by
    have := (ok.env.2.2.1 t (by omega)).2
    have e : X.2.2.2.2.1.vm.findClass ("[" ++ (aty t).toString) = some (Y.1.2.1 t) := by
      rcases (show t = 0 ∨ t = 1 by omega) with rfl | rfl <;> exact this
    rw [hT] at h1
    exact Option.some.inj (h1.symm.trans e)
  subst hcA
  have hz : H.size = B.size + ns.length := hC.1
  rw [hz]
  refine k ok hA hn _ locs ls (cells + 1) (slots + n.toNatClampNeg) (hC.push (by simp) (fun q hq => by rw [Array.getElem?_push, if_neg (Nat.ne_of_lt hq)]) ?_) hL hl (by omega) (by omega)
  show (H.push _)[H.size]? = some _
  rw [Array.getElem?_push_size, arrV_new, hdv]
theorem e_put {j k ci N idx : Nat} {fs : List Value} {v : Value} {ty : FieldType} (hf : FL mi.1.cls idx ci N k) (hw : FI ci N k ty) (hown : (vwCl[ci]?).map (fun q => q.1) = some mi.1.cls) (hd : decode mi.2.1 pc = .ok (.putfield idx, 3)) (hj : ns[j]? = some (.inl (ci, fs))) (hlen : fs.length = N) (hn : narrow ty v = v) (hfit : fits ty v = true) (hp : pc + 3 = pc') (kk : WD ao d X Y b mi pc' B i st (ns.set j (.inl (ci, fs.set k v))) QQ) : WD ao d X Y b mi pc B i (v :: .ref (B.size + j) :: st) ns QQ := by
  subst hp
  intro ok hA hnm H locs ls cells slots hC hL hl hc hs
  obtain ⟨C, T, hcl, hk, hTC, hlink, hin⟩ := hf
  obtain ⟨C', T', tf, hcl', hty, htf, hnm2⟩ := hw
  cases hcl.symm.trans hcl'
  have hCo : C = mi.1.cls := by
    rw [hcl] at hown
    exact Option.some.inj hown
  have hcell := hC.2.2 j _ hj
  obtain ⟨cell, q1, q2, q3, q4⟩ := hcell
  have q4 : ∀ k, k < N → cell.slots[Y.1.1.2 ci k]? = some (vp_V fs k) := fun k hk => q4 k (by rw [hlen]; exact hk)
  have hK : va_K Y.1.1 vwCl [] X.2.2.2.2.1 := ⟨ok.env.2.1, fun k q h => by simp at h⟩
  have hap := va_apart (own := C) ok.hts hin tf htf hnm2 hK hcl
  obtain ⟨hS, hfc, kC, hkC, hkind⟩ := ok.env.2.1 ci _ hcl
  obtain ⟨cf, kf, fi, f, hi, hsl⟩ := hS _ hk
  have hst := (u_facts hfc hkC (u_lays ok.hts hin hk) hi).1
  have hcf : hasFlag f.accessFlags Acc.final = false ∨ (X.2.2.2.2.2.1.cls = cf ∧ X.2.2.2.2.2.2.2.2.1.name = "<init>") := by
    rcases u_lays ok.hts hin hk with hlay | hlay
    · obtain ⟨c, k, cf', kf', fi', fd', r1, r2, hi', hst', hfin, -⟩ := Cond.lays_spec hlay
      have := hi.symm.trans hi'
      simp at this
      obtain ⟨-, -, -, rfl⟩ := this
      exact Or.inl hfin
    · obtain ⟨_, _, c', _, _, _, -, -, hf', -, -, -, hown2, -⟩ := Cond.laysFinal_spec hlay
      have e1 : c' = cf := by have := hi.symm.trans hf'; simp at this; exact this.1.symm
      rw [hTC, hCo] at hown2
      exact Or.inr ⟨by rw [← e1]; exact Option.some.inj (ok.own.symm.trans hown2), hnm⟩
  have h6 := u_fits hfc hkC hkind (u_lays ok.hts hin hk) hi hty hn hfit
  have hlt : f.slot < cell.slots.size := by rw [hsl]; exact k2_hasslot (q4 k hk)
  have ha : B.size + j < H.size := (Array.getElem?_eq_some_iff.mp q1).1
  refine W.putf ok.1 ok.2.1 ok.own (ok.hts _ hlink) (by rw [← hTC]; exact hi) hst hcf q1 (by rw [q3]; exact fun h => by cases h) hlt h6.1 (by rw [q3, q2]; exact h6.2) rfl rfl hd ?_
  refine kk ok hA hnm _ _ ls cells slots (hC.set (by simp) (fun q hq => by simp [Array.getElem?_setIfInBounds, Ne.symm hq]) ?_) (fun q hq => ?_) hl hc hs
  · have e1 : (H.setIfInBounds (B.size + j) (cell.setSlot f.slot v))[B.size + j]? = some (cell.setSlot f.slot v) := by simp [Array.getElem?_setIfInBounds, ha]
    rw [hsl] at e1 ⊢
    show t_OB _ _ (fs.set k v).length _ _ _
    rw [List.length_set, hlen]
    exact t_OB.to (V := updV (vp_V fs) k v) ⟨_, e1, q2, q3, t_set q4 hap hk v⟩ (fun j _ => vp_updV_set (by rw [hlen]; exact hk) v j)
  · rcases List.mem_append.mp hq with h1 | h1
    · exact hL q h1
    · rw [List.mem_singleton.mp h1]
      exact Nat.le_add_right _ _
theorem e_iast {j n : Nat} {x y : Int32} {f : Nat → Value} (hd : decode mi.2.1 pc = .ok (.iastore, 1)) (hj : ns[j]? = some (.inr (0, n, f))) (hin : inr x n) (hp : pc + 1 = pc') (kk : WD ao d X Y b mi pc' B i st (ns.set j (.inr (0, n, updV f (ix x) (.int y)))) QQ) : WD ao d X Y b mi pc B i (.int y :: .int x :: .ref (B.size + j) :: st) ns QQ := by
  subst hp
  intro ok hA hnm H locs ls cells slots hC hL hl hc hs
  have hcell := hC.2.2 j _ hj
  refine W.iast ok.1 ok.2.1 hcell ((ok.env.2.2.1 0 (by decide)).1 n _) (fun q => by cases q) (by rw [arrV_size]; exact hin) rfl rfl hd fun H' e1 e2 e3 => ?_
  refine kk ok hA hnm H' _ ls cells slots (hC.set e2 e3 ?_) (fun q hq => ?_) hl hc hs
  · show H'[B.size + j]? = some _
    rw [e1, arrV_store]
  · rcases List.mem_append.mp hq with h1 | h1
    · exact hL q h1
    · rw [List.mem_singleton.mp h1]
      exact Nat.le_add_right _ _
end DROWS
def mi_X8_init : MI := (yX8_init, cX8_init, 2, none)
theorem d_X8_init_0 : decode mi_X8_init.2.1 0 = .ok (.aload_n 0, 1) := by decide +kernel
theorem d_X8_init_1 : decode mi_X8_init.2.1 1 = .ok (.invokespecial 1, 3) := by decide +kernel
theorem d_X8_init_4 : decode mi_X8_init.2.1 4 = .ok (.aload_n 0, 1) := by decide +kernel
theorem d_X8_init_5 : decode mi_X8_init.2.1 5 = .ok (.bipush 8, 2) := by decide +kernel
theorem d_X8_init_7 : decode mi_X8_init.2.1 7 = .ok (.newarray .int, 2) := by decide +kernel
theorem d_X8_init_9 : decode mi_X8_init.2.1 9 = .ok (.dup, 1) := by decide +kernel
theorem d_X8_init_10 : decode mi_X8_init.2.1 10 = .ok (.iconst 0, 1) := by decide +kernel
theorem d_X8_init_11 : decode mi_X8_init.2.1 11 = .ok (.iconst 1, 1) := by decide +kernel
theorem d_X8_init_12 : decode mi_X8_init.2.1 12 = .ok (.iastore, 1) := by decide +kernel
theorem d_X8_init_13 : decode mi_X8_init.2.1 13 = .ok (.dup, 1) := by decide +kernel
theorem d_X8_init_14 : decode mi_X8_init.2.1 14 = .ok (.iconst 1, 1) := by decide +kernel
theorem d_X8_init_15 : decode mi_X8_init.2.1 15 = .ok (.iconst 0, 1) := by decide +kernel
theorem d_X8_init_16 : decode mi_X8_init.2.1 16 = .ok (.iastore, 1) := by decide +kernel
theorem d_X8_init_17 : decode mi_X8_init.2.1 17 = .ok (.dup, 1) := by decide +kernel
theorem d_X8_init_18 : decode mi_X8_init.2.1 18 = .ok (.iconst 2, 1) := by decide +kernel
theorem d_X8_init_19 : decode mi_X8_init.2.1 19 = .ok (.iconst 1, 1) := by decide +kernel
theorem d_X8_init_20 : decode mi_X8_init.2.1 20 = .ok (.iastore, 1) := by decide +kernel
theorem d_X8_init_21 : decode mi_X8_init.2.1 21 = .ok (.dup, 1) := by decide +kernel
theorem d_X8_init_22 : decode mi_X8_init.2.1 22 = .ok (.iconst 3, 1) := by decide +kernel
theorem d_X8_init_23 : decode mi_X8_init.2.1 23 = .ok (.iconst 1, 1) := by decide +kernel
theorem d_X8_init_24 : decode mi_X8_init.2.1 24 = .ok (.iastore, 1) := by decide +kernel
theorem d_X8_init_25 : decode mi_X8_init.2.1 25 = .ok (.dup, 1) := by decide +kernel
theorem d_X8_init_26 : decode mi_X8_init.2.1 26 = .ok (.iconst 4, 1) := by decide +kernel
theorem d_X8_init_27 : decode mi_X8_init.2.1 27 = .ok (.iconst (-1), 1) := by decide +kernel
theorem d_X8_init_28 : decode mi_X8_init.2.1 28 = .ok (.iastore, 1) := by decide +kernel
theorem d_X8_init_29 : decode mi_X8_init.2.1 29 = .ok (.dup, 1) := by decide +kernel
theorem d_X8_init_30 : decode mi_X8_init.2.1 30 = .ok (.iconst 5, 1) := by decide +kernel
theorem d_X8_init_31 : decode mi_X8_init.2.1 31 = .ok (.iconst 0, 1) := by decide +kernel
theorem d_X8_init_32 : decode mi_X8_init.2.1 32 = .ok (.iastore, 1) := by decide +kernel
theorem d_X8_init_33 : decode mi_X8_init.2.1 33 = .ok (.dup, 1) := by decide +kernel
theorem d_X8_init_34 : decode mi_X8_init.2.1 34 = .ok (.bipush 6, 2) := by decide +kernel
theorem d_X8_init_36 : decode mi_X8_init.2.1 36 = .ok (.iconst (-1), 1) := by decide +kernel
theorem d_X8_init_37 : decode mi_X8_init.2.1 37 = .ok (.iastore, 1) := by decide +kernel
theorem d_X8_init_38 : decode mi_X8_init.2.1 38 = .ok (.dup, 1) := by decide +kernel
theorem d_X8_init_39 : decode mi_X8_init.2.1 39 = .ok (.bipush 7, 2) := by decide +kernel
theorem d_X8_init_41 : decode mi_X8_init.2.1 41 = .ok (.iconst (-1), 1) := by decide +kernel
theorem d_X8_init_42 : decode mi_X8_init.2.1 42 = .ok (.iastore, 1) := by decide +kernel
theorem d_X8_init_43 : decode mi_X8_init.2.1 43 = .ok (.putfield 7, 3) := by decide +kernel
theorem d_X8_init_46 : decode mi_X8_init.2.1 46 = .ok (.aload_n 0, 1) := by decide +kernel
theorem d_X8_init_47 : decode mi_X8_init.2.1 47 = .ok (.bipush 8, 2) := by decide +kernel
theorem d_X8_init_49 : decode mi_X8_init.2.1 49 = .ok (.newarray .int, 2) := by decide +kernel
theorem d_X8_init_51 : decode mi_X8_init.2.1 51 = .ok (.dup, 1) := by decide +kernel
theorem d_X8_init_52 : decode mi_X8_init.2.1 52 = .ok (.iconst 0, 1) := by decide +kernel
theorem d_X8_init_53 : decode mi_X8_init.2.1 53 = .ok (.iconst 0, 1) := by decide +kernel
theorem d_X8_init_54 : decode mi_X8_init.2.1 54 = .ok (.iastore, 1) := by decide +kernel
theorem d_X8_init_55 : decode mi_X8_init.2.1 55 = .ok (.dup, 1) := by decide +kernel
theorem d_X8_init_56 : decode mi_X8_init.2.1 56 = .ok (.iconst 1, 1) := by decide +kernel
theorem d_X8_init_57 : decode mi_X8_init.2.1 57 = .ok (.iconst 1, 1) := by decide +kernel
theorem d_X8_init_58 : decode mi_X8_init.2.1 58 = .ok (.iastore, 1) := by decide +kernel
theorem d_X8_init_59 : decode mi_X8_init.2.1 59 = .ok (.dup, 1) := by decide +kernel
theorem d_X8_init_60 : decode mi_X8_init.2.1 60 = .ok (.iconst 2, 1) := by decide +kernel
theorem d_X8_init_61 : decode mi_X8_init.2.1 61 = .ok (.iconst 1, 1) := by decide +kernel
theorem d_X8_init_62 : decode mi_X8_init.2.1 62 = .ok (.iastore, 1) := by decide +kernel
theorem d_X8_init_63 : decode mi_X8_init.2.1 63 = .ok (.dup, 1) := by decide +kernel
theorem d_X8_init_64 : decode mi_X8_init.2.1 64 = .ok (.iconst 3, 1) := by decide +kernel
theorem d_X8_init_65 : decode mi_X8_init.2.1 65 = .ok (.iconst (-1), 1) := by decide +kernel
theorem d_X8_init_66 : decode mi_X8_init.2.1 66 = .ok (.iastore, 1) := by decide +kernel
theorem d_X8_init_67 : decode mi_X8_init.2.1 67 = .ok (.dup, 1) := by decide +kernel
theorem d_X8_init_68 : decode mi_X8_init.2.1 68 = .ok (.iconst 4, 1) := by decide +kernel
theorem d_X8_init_69 : decode mi_X8_init.2.1 69 = .ok (.iconst 0, 1) := by decide +kernel
theorem d_X8_init_70 : decode mi_X8_init.2.1 70 = .ok (.iastore, 1) := by decide +kernel
theorem d_X8_init_71 : decode mi_X8_init.2.1 71 = .ok (.dup, 1) := by decide +kernel
theorem d_X8_init_72 : decode mi_X8_init.2.1 72 = .ok (.iconst 5, 1) := by decide +kernel
theorem d_X8_init_73 : decode mi_X8_init.2.1 73 = .ok (.iconst (-1), 1) := by decide +kernel
theorem d_X8_init_74 : decode mi_X8_init.2.1 74 = .ok (.iastore, 1) := by decide +kernel
theorem d_X8_init_75 : decode mi_X8_init.2.1 75 = .ok (.dup, 1) := by decide +kernel
theorem d_X8_init_76 : decode mi_X8_init.2.1 76 = .ok (.bipush 6, 2) := by decide +kernel
theorem d_X8_init_78 : decode mi_X8_init.2.1 78 = .ok (.iconst (-1), 1) := by decide +kernel
theorem d_X8_init_79 : decode mi_X8_init.2.1 79 = .ok (.iastore, 1) := by decide +kernel
theorem d_X8_init_80 : decode mi_X8_init.2.1 80 = .ok (.dup, 1) := by decide +kernel
theorem d_X8_init_81 : decode mi_X8_init.2.1 81 = .ok (.bipush 7, 2) := by decide +kernel
theorem d_X8_init_83 : decode mi_X8_init.2.1 83 = .ok (.iconst 1, 1) := by decide +kernel
theorem d_X8_init_84 : decode mi_X8_init.2.1 84 = .ok (.iastore, 1) := by decide +kernel
theorem d_X8_init_85 : decode mi_X8_init.2.1 85 = .ok (.putfield 13, 3) := by decide +kernel
theorem d_X8_init_88 : decode mi_X8_init.2.1 88 = .ok (.aload_n 0, 1) := by decide +kernel
theorem d_X8_init_89 : decode mi_X8_init.2.1 89 = .ok (.bipush 8, 2) := by decide +kernel
theorem d_X8_init_91 : decode mi_X8_init.2.1 91 = .ok (.newarray .int, 2) := by decide +kernel
theorem d_X8_init_93 : decode mi_X8_init.2.1 93 = .ok (.dup, 1) := by decide +kernel
theorem d_X8_init_94 : decode mi_X8_init.2.1 94 = .ok (.iconst 0, 1) := by decide +kernel
theorem d_X8_init_95 : decode mi_X8_init.2.1 95 = .ok (.iconst 0, 1) := by decide +kernel
theorem d_X8_init_96 : decode mi_X8_init.2.1 96 = .ok (.iastore, 1) := by decide +kernel
theorem d_X8_init_97 : decode mi_X8_init.2.1 97 = .ok (.dup, 1) := by decide +kernel
theorem d_X8_init_98 : decode mi_X8_init.2.1 98 = .ok (.iconst 1, 1) := by decide +kernel
theorem d_X8_init_99 : decode mi_X8_init.2.1 99 = .ok (.iconst 2, 1) := by decide +kernel
theorem d_X8_init_100 : decode mi_X8_init.2.1 100 = .ok (.iastore, 1) := by decide +kernel
theorem d_X8_init_101 : decode mi_X8_init.2.1 101 = .ok (.dup, 1) := by decide +kernel
theorem d_X8_init_102 : decode mi_X8_init.2.1 102 = .ok (.iconst 2, 1) := by decide +kernel
theorem d_X8_init_103 : decode mi_X8_init.2.1 103 = .ok (.iconst 1, 1) := by decide +kernel
theorem d_X8_init_104 : decode mi_X8_init.2.1 104 = .ok (.iastore, 1) := by decide +kernel
theorem d_X8_init_105 : decode mi_X8_init.2.1 105 = .ok (.dup, 1) := by decide +kernel
theorem d_X8_init_106 : decode mi_X8_init.2.1 106 = .ok (.iconst 3, 1) := by decide +kernel
theorem d_X8_init_107 : decode mi_X8_init.2.1 107 = .ok (.bipush 7, 2) := by decide +kernel
theorem d_X8_init_109 : decode mi_X8_init.2.1 109 = .ok (.iastore, 1) := by decide +kernel
theorem d_X8_init_110 : decode mi_X8_init.2.1 110 = .ok (.dup, 1) := by decide +kernel
theorem d_X8_init_111 : decode mi_X8_init.2.1 111 = .ok (.iconst 4, 1) := by decide +kernel
theorem d_X8_init_112 : decode mi_X8_init.2.1 112 = .ok (.iconst 4, 1) := by decide +kernel
theorem d_X8_init_113 : decode mi_X8_init.2.1 113 = .ok (.iastore, 1) := by decide +kernel
theorem d_X8_init_114 : decode mi_X8_init.2.1 114 = .ok (.dup, 1) := by decide +kernel
theorem d_X8_init_115 : decode mi_X8_init.2.1 115 = .ok (.iconst 5, 1) := by decide +kernel
theorem d_X8_init_116 : decode mi_X8_init.2.1 116 = .ok (.bipush 6, 2) := by decide +kernel
theorem d_X8_init_118 : decode mi_X8_init.2.1 118 = .ok (.iastore, 1) := by decide +kernel
theorem d_X8_init_119 : decode mi_X8_init.2.1 119 = .ok (.dup, 1) := by decide +kernel
theorem d_X8_init_120 : decode mi_X8_init.2.1 120 = .ok (.bipush 6, 2) := by decide +kernel
theorem d_X8_init_122 : decode mi_X8_init.2.1 122 = .ok (.iconst 5, 1) := by decide +kernel
theorem d_X8_init_123 : decode mi_X8_init.2.1 123 = .ok (.iastore, 1) := by decide +kernel
theorem d_X8_init_124 : decode mi_X8_init.2.1 124 = .ok (.dup, 1) := by decide +kernel
theorem d_X8_init_125 : decode mi_X8_init.2.1 125 = .ok (.bipush 7, 2) := by decide +kernel
theorem d_X8_init_127 : decode mi_X8_init.2.1 127 = .ok (.iconst 3, 1) := by decide +kernel
theorem d_X8_init_128 : decode mi_X8_init.2.1 128 = .ok (.iastore, 1) := by decide +kernel
theorem d_X8_init_129 : decode mi_X8_init.2.1 129 = .ok (.putfield 16, 3) := by decide +kernel
theorem d_X8_init_132 : decode mi_X8_init.2.1 132 = .ok (.aload_n 0, 1) := by decide +kernel
theorem d_X8_init_133 : decode mi_X8_init.2.1 133 = .ok (.bipush 8, 2) := by decide +kernel
theorem d_X8_init_135 : decode mi_X8_init.2.1 135 = .ok (.newarray .int, 2) := by decide +kernel
theorem d_X8_init_137 : decode mi_X8_init.2.1 137 = .ok (.dup, 1) := by decide +kernel
theorem d_X8_init_138 : decode mi_X8_init.2.1 138 = .ok (.iconst 0, 1) := by decide +kernel
theorem d_X8_init_139 : decode mi_X8_init.2.1 139 = .ok (.iconst 1, 1) := by decide +kernel
theorem d_X8_init_140 : decode mi_X8_init.2.1 140 = .ok (.iastore, 1) := by decide +kernel
theorem d_X8_init_141 : decode mi_X8_init.2.1 141 = .ok (.dup, 1) := by decide +kernel
theorem d_X8_init_142 : decode mi_X8_init.2.1 142 = .ok (.iconst 1, 1) := by decide +kernel
theorem d_X8_init_143 : decode mi_X8_init.2.1 143 = .ok (.iconst 4, 1) := by decide +kernel
theorem d_X8_init_144 : decode mi_X8_init.2.1 144 = .ok (.iastore, 1) := by decide +kernel
theorem d_X8_init_145 : decode mi_X8_init.2.1 145 = .ok (.dup, 1) := by decide +kernel
theorem d_X8_init_146 : decode mi_X8_init.2.1 146 = .ok (.iconst 2, 1) := by decide +kernel
theorem d_X8_init_147 : decode mi_X8_init.2.1 147 = .ok (.bipush 7, 2) := by decide +kernel
theorem d_X8_init_149 : decode mi_X8_init.2.1 149 = .ok (.iastore, 1) := by decide +kernel
theorem d_X8_init_150 : decode mi_X8_init.2.1 150 = .ok (.dup, 1) := by decide +kernel
theorem d_X8_init_151 : decode mi_X8_init.2.1 151 = .ok (.iconst 3, 1) := by decide +kernel
theorem d_X8_init_152 : decode mi_X8_init.2.1 152 = .ok (.iconst 2, 1) := by decide +kernel
theorem d_X8_init_153 : decode mi_X8_init.2.1 153 = .ok (.iastore, 1) := by decide +kernel
theorem d_X8_init_154 : decode mi_X8_init.2.1 154 = .ok (.dup, 1) := by decide +kernel
theorem d_X8_init_155 : decode mi_X8_init.2.1 155 = .ok (.iconst 4, 1) := by decide +kernel
theorem d_X8_init_156 : decode mi_X8_init.2.1 156 = .ok (.iconst 5, 1) := by decide +kernel
theorem d_X8_init_157 : decode mi_X8_init.2.1 157 = .ok (.iastore, 1) := by decide +kernel
theorem d_X8_init_158 : decode mi_X8_init.2.1 158 = .ok (.dup, 1) := by decide +kernel
theorem d_X8_init_159 : decode mi_X8_init.2.1 159 = .ok (.iconst 5, 1) := by decide +kernel
theorem d_X8_init_160 : decode mi_X8_init.2.1 160 = .ok (.iconst 0, 1) := by decide +kernel
theorem d_X8_init_161 : decode mi_X8_init.2.1 161 = .ok (.iastore, 1) := by decide +kernel
theorem d_X8_init_162 : decode mi_X8_init.2.1 162 = .ok (.dup, 1) := by decide +kernel
theorem d_X8_init_163 : decode mi_X8_init.2.1 163 = .ok (.bipush 6, 2) := by decide +kernel
theorem d_X8_init_165 : decode mi_X8_init.2.1 165 = .ok (.iconst 3, 1) := by decide +kernel
theorem d_X8_init_166 : decode mi_X8_init.2.1 166 = .ok (.iastore, 1) := by decide +kernel
theorem d_X8_init_167 : decode mi_X8_init.2.1 167 = .ok (.dup, 1) := by decide +kernel
theorem d_X8_init_168 : decode mi_X8_init.2.1 168 = .ok (.bipush 7, 2) := by decide +kernel
theorem d_X8_init_170 : decode mi_X8_init.2.1 170 = .ok (.bipush 6, 2) := by decide +kernel
theorem d_X8_init_172 : decode mi_X8_init.2.1 172 = .ok (.iastore, 1) := by decide +kernel
theorem d_X8_init_173 : decode mi_X8_init.2.1 173 = .ok (.putfield 19, 3) := by decide +kernel
theorem d_X8_init_176 : decode mi_X8_init.2.1 176 = .ok (.aload_n 0, 1) := by decide +kernel
theorem d_X8_init_177 : decode mi_X8_init.2.1 177 = .ok (.bipush 8, 2) := by decide +kernel
theorem d_X8_init_179 : decode mi_X8_init.2.1 179 = .ok (.newarray .int, 2) := by decide +kernel
theorem d_X8_init_181 : decode mi_X8_init.2.1 181 = .ok (.dup, 1) := by decide +kernel
theorem d_X8_init_182 : decode mi_X8_init.2.1 182 = .ok (.iconst 0, 1) := by decide +kernel
theorem d_X8_init_183 : decode mi_X8_init.2.1 183 = .ok (.iconst 4, 1) := by decide +kernel
theorem d_X8_init_184 : decode mi_X8_init.2.1 184 = .ok (.iastore, 1) := by decide +kernel
theorem d_X8_init_185 : decode mi_X8_init.2.1 185 = .ok (.dup, 1) := by decide +kernel
theorem d_X8_init_186 : decode mi_X8_init.2.1 186 = .ok (.iconst 1, 1) := by decide +kernel
theorem d_X8_init_187 : decode mi_X8_init.2.1 187 = .ok (.iconst 1, 1) := by decide +kernel
theorem d_X8_init_188 : decode mi_X8_init.2.1 188 = .ok (.iastore, 1) := by decide +kernel
theorem d_X8_init_189 : decode mi_X8_init.2.1 189 = .ok (.dup, 1) := by decide +kernel
theorem d_X8_init_190 : decode mi_X8_init.2.1 190 = .ok (.iconst 2, 1) := by decide +kernel
theorem d_X8_init_191 : decode mi_X8_init.2.1 191 = .ok (.bipush 7, 2) := by decide +kernel
theorem d_X8_init_193 : decode mi_X8_init.2.1 193 = .ok (.iastore, 1) := by decide +kernel
theorem d_X8_init_194 : decode mi_X8_init.2.1 194 = .ok (.dup, 1) := by decide +kernel
theorem d_X8_init_195 : decode mi_X8_init.2.1 195 = .ok (.iconst 3, 1) := by decide +kernel
theorem d_X8_init_196 : decode mi_X8_init.2.1 196 = .ok (.bipush 6, 2) := by decide +kernel
theorem d_X8_init_198 : decode mi_X8_init.2.1 198 = .ok (.iastore, 1) := by decide +kernel
theorem d_X8_init_199 : decode mi_X8_init.2.1 199 = .ok (.dup, 1) := by decide +kernel
theorem d_X8_init_200 : decode mi_X8_init.2.1 200 = .ok (.iconst 4, 1) := by decide +kernel
theorem d_X8_init_201 : decode mi_X8_init.2.1 201 = .ok (.iconst 0, 1) := by decide +kernel
theorem d_X8_init_202 : decode mi_X8_init.2.1 202 = .ok (.iastore, 1) := by decide +kernel
theorem d_X8_init_203 : decode mi_X8_init.2.1 203 = .ok (.dup, 1) := by decide +kernel
theorem d_X8_init_204 : decode mi_X8_init.2.1 204 = .ok (.iconst 5, 1) := by decide +kernel
theorem d_X8_init_205 : decode mi_X8_init.2.1 205 = .ok (.iconst 5, 1) := by decide +kernel
theorem d_X8_init_206 : decode mi_X8_init.2.1 206 = .ok (.iastore, 1) := by decide +kernel
theorem d_X8_init_207 : decode mi_X8_init.2.1 207 = .ok (.dup, 1) := by decide +kernel
theorem d_X8_init_208 : decode mi_X8_init.2.1 208 = .ok (.bipush 6, 2) := by decide +kernel
theorem d_X8_init_210 : decode mi_X8_init.2.1 210 = .ok (.iconst 3, 1) := by decide +kernel
theorem d_X8_init_211 : decode mi_X8_init.2.1 211 = .ok (.iastore, 1) := by decide +kernel
theorem d_X8_init_212 : decode mi_X8_init.2.1 212 = .ok (.dup, 1) := by decide +kernel
theorem d_X8_init_213 : decode mi_X8_init.2.1 213 = .ok (.bipush 7, 2) := by decide +kernel
theorem d_X8_init_215 : decode mi_X8_init.2.1 215 = .ok (.iconst 2, 1) := by decide +kernel
theorem d_X8_init_216 : decode mi_X8_init.2.1 216 = .ok (.iastore, 1) := by decide +kernel
theorem d_X8_init_217 : decode mi_X8_init.2.1 217 = .ok (.putfield 22, 3) := by decide +kernel
theorem d_X8_init_220 : decode mi_X8_init.2.1 220 = .ok (.aload_n 0, 1) := by decide +kernel
theorem d_X8_init_221 : decode mi_X8_init.2.1 221 = .ok (.bipush 8, 2) := by decide +kernel
theorem d_X8_init_223 : decode mi_X8_init.2.1 223 = .ok (.newarray .int, 2) := by decide +kernel
theorem d_X8_init_225 : decode mi_X8_init.2.1 225 = .ok (.dup, 1) := by decide +kernel
theorem d_X8_init_226 : decode mi_X8_init.2.1 226 = .ok (.iconst 0, 1) := by decide +kernel
theorem d_X8_init_227 : decode mi_X8_init.2.1 227 = .ok (.iconst 1, 1) := by decide +kernel
theorem d_X8_init_228 : decode mi_X8_init.2.1 228 = .ok (.iastore, 1) := by decide +kernel
theorem d_X8_init_229 : decode mi_X8_init.2.1 229 = .ok (.dup, 1) := by decide +kernel
theorem d_X8_init_230 : decode mi_X8_init.2.1 230 = .ok (.iconst 1, 1) := by decide +kernel
theorem d_X8_init_231 : decode mi_X8_init.2.1 231 = .ok (.iconst 0, 1) := by decide +kernel
theorem d_X8_init_232 : decode mi_X8_init.2.1 232 = .ok (.iastore, 1) := by decide +kernel
theorem d_X8_init_233 : decode mi_X8_init.2.1 233 = .ok (.dup, 1) := by decide +kernel
theorem d_X8_init_234 : decode mi_X8_init.2.1 234 = .ok (.iconst 2, 1) := by decide +kernel
theorem d_X8_init_235 : decode mi_X8_init.2.1 235 = .ok (.iconst 2, 1) := by decide +kernel
theorem d_X8_init_236 : decode mi_X8_init.2.1 236 = .ok (.iastore, 1) := by decide +kernel
theorem d_X8_init_237 : decode mi_X8_init.2.1 237 = .ok (.dup, 1) := by decide +kernel
theorem d_X8_init_238 : decode mi_X8_init.2.1 238 = .ok (.iconst 3, 1) := by decide +kernel
theorem d_X8_init_239 : decode mi_X8_init.2.1 239 = .ok (.bipush 7, 2) := by decide +kernel
theorem d_X8_init_241 : decode mi_X8_init.2.1 241 = .ok (.iastore, 1) := by decide +kernel
theorem d_X8_init_242 : decode mi_X8_init.2.1 242 = .ok (.dup, 1) := by decide +kernel
theorem d_X8_init_243 : decode mi_X8_init.2.1 243 = .ok (.iconst 4, 1) := by decide +kernel
theorem d_X8_init_244 : decode mi_X8_init.2.1 244 = .ok (.iconst 5, 1) := by decide +kernel
theorem d_X8_init_245 : decode mi_X8_init.2.1 245 = .ok (.iastore, 1) := by decide +kernel
theorem d_X8_init_246 : decode mi_X8_init.2.1 246 = .ok (.dup, 1) := by decide +kernel
theorem d_X8_init_247 : decode mi_X8_init.2.1 247 = .ok (.iconst 5, 1) := by decide +kernel
theorem d_X8_init_248 : decode mi_X8_init.2.1 248 = .ok (.iconst 4, 1) := by decide +kernel
theorem d_X8_init_249 : decode mi_X8_init.2.1 249 = .ok (.iastore, 1) := by decide +kernel
theorem d_X8_init_250 : decode mi_X8_init.2.1 250 = .ok (.dup, 1) := by decide +kernel
theorem d_X8_init_251 : decode mi_X8_init.2.1 251 = .ok (.bipush 6, 2) := by decide +kernel
theorem d_X8_init_253 : decode mi_X8_init.2.1 253 = .ok (.bipush 6, 2) := by decide +kernel
theorem d_X8_init_255 : decode mi_X8_init.2.1 255 = .ok (.iastore, 1) := by decide +kernel
theorem d_X8_init_256 : decode mi_X8_init.2.1 256 = .ok (.dup, 1) := by decide +kernel
theorem d_X8_init_257 : decode mi_X8_init.2.1 257 = .ok (.bipush 7, 2) := by decide +kernel
theorem d_X8_init_259 : decode mi_X8_init.2.1 259 = .ok (.iconst 3, 1) := by decide +kernel
theorem d_X8_init_260 : decode mi_X8_init.2.1 260 = .ok (.iastore, 1) := by decide +kernel
theorem d_X8_init_261 : decode mi_X8_init.2.1 261 = .ok (.putfield 25, 3) := by decide +kernel
theorem d_X8_init_264 : decode mi_X8_init.2.1 264 = .ok (.aload_n 0, 1) := by decide +kernel
theorem d_X8_init_265 : decode mi_X8_init.2.1 265 = .ok (.bipush 60, 2) := by decide +kernel
theorem d_X8_init_267 : decode mi_X8_init.2.1 267 = .ok (.newarray .boolean, 2) := by decide +kernel
theorem d_X8_init_269 : decode mi_X8_init.2.1 269 = .ok (.putfield 28, 3) := by decide +kernel
theorem d_X8_init_272 : decode mi_X8_init.2.1 272 = .ok (.aload_n 0, 1) := by decide +kernel
theorem d_X8_init_273 : decode mi_X8_init.2.1 273 = .ok (.sipush 480, 3) := by decide +kernel
theorem d_X8_init_276 : decode mi_X8_init.2.1 276 = .ok (.newarray .int, 2) := by decide +kernel
theorem d_X8_init_278 : decode mi_X8_init.2.1 278 = .ok (.putfield 32, 3) := by decide +kernel
theorem d_X8_init_281 : decode mi_X8_init.2.1 281 = .ok (.aload_n 0, 1) := by decide +kernel
theorem d_X8_init_282 : decode mi_X8_init.2.1 282 = .ok (.bipush 60, 2) := by decide +kernel
theorem d_X8_init_284 : decode mi_X8_init.2.1 284 = .ok (.newarray .int, 2) := by decide +kernel
theorem d_X8_init_286 : decode mi_X8_init.2.1 286 = .ok (.putfield 35, 3) := by decide +kernel
theorem d_X8_init_289 : decode mi_X8_init.2.1 289 = .ok (.aload_n 0, 1) := by decide +kernel
theorem d_X8_init_290 : decode mi_X8_init.2.1 290 = .ok (.bipush 60, 2) := by decide +kernel
theorem d_X8_init_292 : decode mi_X8_init.2.1 292 = .ok (.newarray .int, 2) := by decide +kernel
theorem d_X8_init_294 : decode mi_X8_init.2.1 294 = .ok (.putfield 38, 3) := by decide +kernel
theorem d_X8_init_297 : decode mi_X8_init.2.1 297 = .ok (.aload_n 0, 1) := by decide +kernel
theorem d_X8_init_298 : decode mi_X8_init.2.1 298 = .ok (.bipush 60, 2) := by decide +kernel
theorem d_X8_init_300 : decode mi_X8_init.2.1 300 = .ok (.newarray .boolean, 2) := by decide +kernel
theorem d_X8_init_302 : decode mi_X8_init.2.1 302 = .ok (.putfield 41, 3) := by decide +kernel
theorem d_X8_init_305 : decode mi_X8_init.2.1 305 = .ok (.aload_n 0, 1) := by decide +kernel
theorem d_X8_init_306 : decode mi_X8_init.2.1 306 = .ok (.bipush 60, 2) := by decide +kernel
theorem d_X8_init_308 : decode mi_X8_init.2.1 308 = .ok (.newarray .int, 2) := by decide +kernel
theorem d_X8_init_310 : decode mi_X8_init.2.1 310 = .ok (.putfield 44, 3) := by decide +kernel
theorem d_X8_init_313 : decode mi_X8_init.2.1 313 = .ok (.aload_n 0, 1) := by decide +kernel
theorem d_X8_init_314 : decode mi_X8_init.2.1 314 = .ok (.bipush 8, 2) := by decide +kernel
theorem d_X8_init_316 : decode mi_X8_init.2.1 316 = .ok (.newarray .int, 2) := by decide +kernel
theorem d_X8_init_318 : decode mi_X8_init.2.1 318 = .ok (.putfield 47, 3) := by decide +kernel
theorem d_X8_init_321 : decode mi_X8_init.2.1 321 = .ok (.aload_n 0, 1) := by decide +kernel
theorem d_X8_init_322 : decode mi_X8_init.2.1 322 = .ok (.bipush 32, 2) := by decide +kernel
theorem d_X8_init_324 : decode mi_X8_init.2.1 324 = .ok (.newarray .int, 2) := by decide +kernel
theorem d_X8_init_326 : decode mi_X8_init.2.1 326 = .ok (.putfield 50, 3) := by decide +kernel
theorem d_X8_init_329 : decode mi_X8_init.2.1 329 = .ok (.aload_n 0, 1) := by decide +kernel
theorem d_X8_init_330 : decode mi_X8_init.2.1 330 = .ok (.bipush 32, 2) := by decide +kernel
theorem d_X8_init_332 : decode mi_X8_init.2.1 332 = .ok (.newarray .int, 2) := by decide +kernel
theorem d_X8_init_334 : decode mi_X8_init.2.1 334 = .ok (.putfield 53, 3) := by decide +kernel
theorem d_X8_init_337 : decode mi_X8_init.2.1 337 = .ok (.aload_n 0, 1) := by decide +kernel
theorem d_X8_init_338 : decode mi_X8_init.2.1 338 = .ok (.bipush 8, 2) := by decide +kernel
theorem d_X8_init_340 : decode mi_X8_init.2.1 340 = .ok (.newarray .int, 2) := by decide +kernel
theorem d_X8_init_342 : decode mi_X8_init.2.1 342 = .ok (.putfield 56, 3) := by decide +kernel
theorem d_X8_init_345 : decode mi_X8_init.2.1 345 = .ok (.aload_n 0, 1) := by decide +kernel
theorem d_X8_init_346 : decode mi_X8_init.2.1 346 = .ok (.bipush 8, 2) := by decide +kernel
theorem d_X8_init_348 : decode mi_X8_init.2.1 348 = .ok (.newarray .int, 2) := by decide +kernel
theorem d_X8_init_350 : decode mi_X8_init.2.1 350 = .ok (.putfield 59, 3) := by decide +kernel
theorem d_X8_init_353 : decode mi_X8_init.2.1 353 = .ok (.aload_n 0, 1) := by decide +kernel
theorem d_X8_init_354 : decode mi_X8_init.2.1 354 = .ok (.bipush 8, 2) := by decide +kernel
theorem d_X8_init_356 : decode mi_X8_init.2.1 356 = .ok (.newarray .int, 2) := by decide +kernel
theorem d_X8_init_358 : decode mi_X8_init.2.1 358 = .ok (.putfield 62, 3) := by decide +kernel
theorem d_X8_init_361 : decode mi_X8_init.2.1 361 = .ok (.aload_n 0, 1) := by decide +kernel
theorem d_X8_init_362 : decode mi_X8_init.2.1 362 = .ok (.bipush 8, 2) := by decide +kernel
theorem d_X8_init_364 : decode mi_X8_init.2.1 364 = .ok (.newarray .int, 2) := by decide +kernel
theorem d_X8_init_366 : decode mi_X8_init.2.1 366 = .ok (.putfield 65, 3) := by decide +kernel
theorem d_X8_init_369 : decode mi_X8_init.2.1 369 = .ok (.aload_n 0, 1) := by decide +kernel
theorem d_X8_init_370 : decode mi_X8_init.2.1 370 = .ok (.bipush 8, 2) := by decide +kernel
theorem d_X8_init_372 : decode mi_X8_init.2.1 372 = .ok (.newarray .int, 2) := by decide +kernel
theorem d_X8_init_374 : decode mi_X8_init.2.1 374 = .ok (.putfield 68, 3) := by decide +kernel
theorem d_X8_init_377 : decode mi_X8_init.2.1 377 = .ok (.aload_n 0, 1) := by decide +kernel
theorem d_X8_init_378 : decode mi_X8_init.2.1 378 = .ok (.bipush 8, 2) := by decide +kernel
theorem d_X8_init_380 : decode mi_X8_init.2.1 380 = .ok (.newarray .int, 2) := by decide +kernel
theorem d_X8_init_382 : decode mi_X8_init.2.1 382 = .ok (.putfield 71, 3) := by decide +kernel
theorem d_X8_init_385 : decode mi_X8_init.2.1 385 = .ok (.aload_n 0, 1) := by decide +kernel
theorem d_X8_init_386 : decode mi_X8_init.2.1 386 = .ok (.bipush 8, 2) := by decide +kernel
theorem d_X8_init_388 : decode mi_X8_init.2.1 388 = .ok (.newarray .int, 2) := by decide +kernel
theorem d_X8_init_390 : decode mi_X8_init.2.1 390 = .ok (.putfield 74, 3) := by decide +kernel
theorem d_X8_init_393 : decode mi_X8_init.2.1 393 = .ok (.aload_n 0, 1) := by decide +kernel
theorem d_X8_init_394 : decode mi_X8_init.2.1 394 = .ok (.bipush 64, 2) := by decide +kernel
theorem d_X8_init_396 : decode mi_X8_init.2.1 396 = .ok (.newarray .int, 2) := by decide +kernel
theorem d_X8_init_398 : decode mi_X8_init.2.1 398 = .ok (.putfield 77, 3) := by decide +kernel
theorem d_X8_init_401 : decode mi_X8_init.2.1 401 = .ok (.aload_n 0, 1) := by decide +kernel
theorem d_X8_init_402 : decode mi_X8_init.2.1 402 = .ok (.bipush 8, 2) := by decide +kernel
theorem d_X8_init_404 : decode mi_X8_init.2.1 404 = .ok (.newarray .int, 2) := by decide +kernel
theorem d_X8_init_406 : decode mi_X8_init.2.1 406 = .ok (.putfield 80, 3) := by decide +kernel
theorem d_X8_init_409 : decode mi_X8_init.2.1 409 = .ok (.aload_n 0, 1) := by decide +kernel
theorem d_X8_init_410 : decode mi_X8_init.2.1 410 = .ok (.bipush 8, 2) := by decide +kernel
theorem d_X8_init_412 : decode mi_X8_init.2.1 412 = .ok (.newarray .int, 2) := by decide +kernel
theorem d_X8_init_414 : decode mi_X8_init.2.1 414 = .ok (.putfield 83, 3) := by decide +kernel
theorem d_X8_init_417 : decode mi_X8_init.2.1 417 = .ok (.aload_n 0, 1) := by decide +kernel
theorem d_X8_init_418 : decode mi_X8_init.2.1 418 = .ok (.bipush 8, 2) := by decide +kernel
theorem d_X8_init_420 : decode mi_X8_init.2.1 420 = .ok (.newarray .int, 2) := by decide +kernel
theorem d_X8_init_422 : decode mi_X8_init.2.1 422 = .ok (.putfield 86, 3) := by decide +kernel
theorem d_X8_init_425 : decode mi_X8_init.2.1 425 = .ok (.aload_n 0, 1) := by decide +kernel
theorem d_X8_init_426 : decode mi_X8_init.2.1 426 = .ok (.bipush 8, 2) := by decide +kernel
theorem d_X8_init_428 : decode mi_X8_init.2.1 428 = .ok (.newarray .int, 2) := by decide +kernel
theorem d_X8_init_430 : decode mi_X8_init.2.1 430 = .ok (.putfield 89, 3) := by decide +kernel
theorem d_X8_init_433 : decode mi_X8_init.2.1 433 = .ok (.aload_n 0, 1) := by decide +kernel
theorem d_X8_init_434 : decode mi_X8_init.2.1 434 = .ok (.bipush 8, 2) := by decide +kernel
theorem d_X8_init_436 : decode mi_X8_init.2.1 436 = .ok (.newarray .int, 2) := by decide +kernel
theorem d_X8_init_438 : decode mi_X8_init.2.1 438 = .ok (.putfield 92, 3) := by decide +kernel
theorem d_X8_init_441 : decode mi_X8_init.2.1 441 = .ok (.aload_n 0, 1) := by decide +kernel
theorem d_X8_init_442 : decode mi_X8_init.2.1 442 = .ok (.bipush 40, 2) := by decide +kernel
theorem d_X8_init_444 : decode mi_X8_init.2.1 444 = .ok (.newarray .int, 2) := by decide +kernel
theorem d_X8_init_446 : decode mi_X8_init.2.1 446 = .ok (.putfield 95, 3) := by decide +kernel
theorem d_X8_init_449 : decode mi_X8_init.2.1 449 = .ok (.aload_n 0, 1) := by decide +kernel
theorem d_X8_init_450 : decode mi_X8_init.2.1 450 = .ok (.bipush 40, 2) := by decide +kernel
theorem d_X8_init_452 : decode mi_X8_init.2.1 452 = .ok (.newarray .int, 2) := by decide +kernel
theorem d_X8_init_454 : decode mi_X8_init.2.1 454 = .ok (.putfield 98, 3) := by decide +kernel
theorem d_X8_init_457 : decode mi_X8_init.2.1 457 = .ok (.aload_n 0, 1) := by decide +kernel
theorem d_X8_init_458 : decode mi_X8_init.2.1 458 = .ok (.bipush 40, 2) := by decide +kernel
theorem d_X8_init_460 : decode mi_X8_init.2.1 460 = .ok (.newarray .int, 2) := by decide +kernel
theorem d_X8_init_462 : decode mi_X8_init.2.1 462 = .ok (.putfield 101, 3) := by decide +kernel
theorem d_X8_init_465 : decode mi_X8_init.2.1 465 = .ok (.aload_n 0, 1) := by decide +kernel
theorem d_X8_init_466 : decode mi_X8_init.2.1 466 = .ok (.bipush 40, 2) := by decide +kernel
theorem d_X8_init_468 : decode mi_X8_init.2.1 468 = .ok (.newarray .int, 2) := by decide +kernel
theorem d_X8_init_470 : decode mi_X8_init.2.1 470 = .ok (.putfield 104, 3) := by decide +kernel
theorem d_X8_init_473 : decode mi_X8_init.2.1 473 = .ok (.aload_n 0, 1) := by decide +kernel
theorem d_X8_init_474 : decode mi_X8_init.2.1 474 = .ok (.bipush 8, 2) := by decide +kernel
theorem d_X8_init_476 : decode mi_X8_init.2.1 476 = .ok (.newarray .boolean, 2) := by decide +kernel
theorem d_X8_init_478 : decode mi_X8_init.2.1 478 = .ok (.putfield 107, 3) := by decide +kernel
theorem d_X8_init_481 : decode mi_X8_init.2.1 481 = .ok (.aload_n 0, 1) := by decide +kernel
theorem d_X8_init_482 : decode mi_X8_init.2.1 482 = .ok (.bipush 12, 2) := by decide +kernel
theorem d_X8_init_484 : decode mi_X8_init.2.1 484 = .ok (.newarray .int, 2) := by decide +kernel
theorem d_X8_init_486 : decode mi_X8_init.2.1 486 = .ok (.putfield 110, 3) := by decide +kernel
theorem d_X8_init_489 : decode mi_X8_init.2.1 489 = .ok (.aload_n 0, 1) := by decide +kernel
theorem d_X8_init_490 : decode mi_X8_init.2.1 490 = .ok (.sipush 240, 3) := by decide +kernel
theorem d_X8_init_493 : decode mi_X8_init.2.1 493 = .ok (.newarray .int, 2) := by decide +kernel
theorem d_X8_init_495 : decode mi_X8_init.2.1 495 = .ok (.putfield 113, 3) := by decide +kernel
theorem d_X8_init_498 : decode mi_X8_init.2.1 498 = .ok (.aload_n 0, 1) := by decide +kernel
theorem d_X8_init_499 : decode mi_X8_init.2.1 499 = .ok (.sipush 240, 3) := by decide +kernel
theorem d_X8_init_502 : decode mi_X8_init.2.1 502 = .ok (.newarray .boolean, 2) := by decide +kernel
theorem d_X8_init_504 : decode mi_X8_init.2.1 504 = .ok (.putfield 116, 3) := by decide +kernel
theorem d_X8_init_507 : decode mi_X8_init.2.1 507 = .ok (.aload_n 0, 1) := by decide +kernel
theorem d_X8_init_508 : decode mi_X8_init.2.1 508 = .ok (.bipush 12, 2) := by decide +kernel
theorem d_X8_init_510 : decode mi_X8_init.2.1 510 = .ok (.newarray .int, 2) := by decide +kernel
theorem d_X8_init_512 : decode mi_X8_init.2.1 512 = .ok (.putfield 119, 3) := by decide +kernel
theorem d_X8_init_515 : decode mi_X8_init.2.1 515 = .ok (.aload_n 0, 1) := by decide +kernel
theorem d_X8_init_516 : decode mi_X8_init.2.1 516 = .ok (.bipush 12, 2) := by decide +kernel
theorem d_X8_init_518 : decode mi_X8_init.2.1 518 = .ok (.newarray .boolean, 2) := by decide +kernel
theorem d_X8_init_520 : decode mi_X8_init.2.1 520 = .ok (.putfield 122, 3) := by decide +kernel
theorem d_X8_init_523 : decode mi_X8_init.2.1 523 = .ok (.aload_n 0, 1) := by decide +kernel
theorem d_X8_init_524 : decode mi_X8_init.2.1 524 = .ok (.bipush 60, 2) := by decide +kernel
theorem d_X8_init_526 : decode mi_X8_init.2.1 526 = .ok (.newarray .boolean, 2) := by decide +kernel
theorem d_X8_init_528 : decode mi_X8_init.2.1 528 = .ok (.putfield 125, 3) := by decide +kernel
theorem d_X8_init_531 : decode mi_X8_init.2.1 531 = .ok (.aload_n 0, 1) := by decide +kernel
theorem d_X8_init_532 : decode mi_X8_init.2.1 532 = .ok (.bipush 60, 2) := by decide +kernel
theorem d_X8_init_534 : decode mi_X8_init.2.1 534 = .ok (.newarray .boolean, 2) := by decide +kernel
theorem d_X8_init_536 : decode mi_X8_init.2.1 536 = .ok (.putfield 128, 3) := by decide +kernel
theorem co_X8_1 : CO RX8 1 := by unfold CO; decide +kernel
theorem fln_X8_7 : FL RX8 7 8 49 0 := ⟨RX8, TX8, rfl, by decide, rfl, by decide +kernel, inn_8⟩
theorem fi_8_0 : FI 8 49 0 (tyX8 0) := ⟨RX8, TX8, tyX8, rfl, by decide +kernel, tyX8_ok, nmX8⟩
theorem fln_X8_13 : FL RX8 13 8 49 1 := ⟨RX8, TX8, rfl, by decide, rfl, by decide +kernel, inn_8⟩
theorem fi_8_1 : FI 8 49 1 (tyX8 1) := ⟨RX8, TX8, tyX8, rfl, by decide +kernel, tyX8_ok, nmX8⟩
theorem fln_X8_16 : FL RX8 16 8 49 2 := ⟨RX8, TX8, rfl, by decide, rfl, by decide +kernel, inn_8⟩
theorem fi_8_2 : FI 8 49 2 (tyX8 2) := ⟨RX8, TX8, tyX8, rfl, by decide +kernel, tyX8_ok, nmX8⟩
theorem fln_X8_19 : FL RX8 19 8 49 3 := ⟨RX8, TX8, rfl, by decide, rfl, by decide +kernel, inn_8⟩
theorem fi_8_3 : FI 8 49 3 (tyX8 3) := ⟨RX8, TX8, tyX8, rfl, by decide +kernel, tyX8_ok, nmX8⟩
theorem fln_X8_22 : FL RX8 22 8 49 4 := ⟨RX8, TX8, rfl, by decide, rfl, by decide +kernel, inn_8⟩
theorem fi_8_4 : FI 8 49 4 (tyX8 4) := ⟨RX8, TX8, tyX8, rfl, by decide +kernel, tyX8_ok, nmX8⟩
theorem fln_X8_25 : FL RX8 25 8 49 5 := ⟨RX8, TX8, rfl, by decide, rfl, by decide +kernel, inn_8⟩
theorem fi_8_5 : FI 8 49 5 (tyX8 5) := ⟨RX8, TX8, tyX8, rfl, by decide +kernel, tyX8_ok, nmX8⟩
theorem fln_X8_28 : FL RX8 28 8 49 7 := ⟨RX8, TX8, rfl, by decide, rfl, by decide +kernel, inn_8⟩
theorem fi_8_7 : FI 8 49 7 (tyX8 7) := ⟨RX8, TX8, tyX8, rfl, by decide +kernel, tyX8_ok, nmX8⟩
theorem fln_X8_32 : FL RX8 32 8 49 8 := ⟨RX8, TX8, rfl, by decide, rfl, by decide +kernel, inn_8⟩
theorem fi_8_8 : FI 8 49 8 (tyX8 8) := ⟨RX8, TX8, tyX8, rfl, by decide +kernel, tyX8_ok, nmX8⟩
theorem fln_X8_35 : FL RX8 35 8 49 9 := ⟨RX8, TX8, rfl, by decide, rfl, by decide +kernel, inn_8⟩
theorem fi_8_9 : FI 8 49 9 (tyX8 9) := ⟨RX8, TX8, tyX8, rfl, by decide +kernel, tyX8_ok, nmX8⟩
theorem fln_X8_38 : FL RX8 38 8 49 10 := ⟨RX8, TX8, rfl, by decide, rfl, by decide +kernel, inn_8⟩
theorem fi_8_10 : FI 8 49 10 (tyX8 10) := ⟨RX8, TX8, tyX8, rfl, by decide +kernel, tyX8_ok, nmX8⟩
theorem fln_X8_41 : FL RX8 41 8 49 11 := ⟨RX8, TX8, rfl, by decide, rfl, by decide +kernel, inn_8⟩
theorem fi_8_11 : FI 8 49 11 (tyX8 11) := ⟨RX8, TX8, tyX8, rfl, by decide +kernel, tyX8_ok, nmX8⟩
theorem fln_X8_44 : FL RX8 44 8 49 12 := ⟨RX8, TX8, rfl, by decide, rfl, by decide +kernel, inn_8⟩
theorem fi_8_12 : FI 8 49 12 (tyX8 12) := ⟨RX8, TX8, tyX8, rfl, by decide +kernel, tyX8_ok, nmX8⟩
theorem fln_X8_47 : FL RX8 47 8 49 13 := ⟨RX8, TX8, rfl, by decide, rfl, by decide +kernel, inn_8⟩
theorem fi_8_13 : FI 8 49 13 (tyX8 13) := ⟨RX8, TX8, tyX8, rfl, by decide +kernel, tyX8_ok, nmX8⟩
theorem fln_X8_50 : FL RX8 50 8 49 15 := ⟨RX8, TX8, rfl, by decide, rfl, by decide +kernel, inn_8⟩
theorem fi_8_15 : FI 8 49 15 (tyX8 15) := ⟨RX8, TX8, tyX8, rfl, by decide +kernel, tyX8_ok, nmX8⟩
theorem fln_X8_53 : FL RX8 53 8 49 16 := ⟨RX8, TX8, rfl, by decide, rfl, by decide +kernel, inn_8⟩
theorem fi_8_16 : FI 8 49 16 (tyX8 16) := ⟨RX8, TX8, tyX8, rfl, by decide +kernel, tyX8_ok, nmX8⟩
theorem fln_X8_56 : FL RX8 56 8 49 18 := ⟨RX8, TX8, rfl, by decide, rfl, by decide +kernel, inn_8⟩
theorem fi_8_18 : FI 8 49 18 (tyX8 18) := ⟨RX8, TX8, tyX8, rfl, by decide +kernel, tyX8_ok, nmX8⟩
theorem fln_X8_59 : FL RX8 59 8 49 19 := ⟨RX8, TX8, rfl, by decide, rfl, by decide +kernel, inn_8⟩
theorem fi_8_19 : FI 8 49 19 (tyX8 19) := ⟨RX8, TX8, tyX8, rfl, by decide +kernel, tyX8_ok, nmX8⟩
theorem fln_X8_62 : FL RX8 62 8 49 20 := ⟨RX8, TX8, rfl, by decide, rfl, by decide +kernel, inn_8⟩
theorem fi_8_20 : FI 8 49 20 (tyX8 20) := ⟨RX8, TX8, tyX8, rfl, by decide +kernel, tyX8_ok, nmX8⟩
theorem fln_X8_65 : FL RX8 65 8 49 21 := ⟨RX8, TX8, rfl, by decide, rfl, by decide +kernel, inn_8⟩
theorem fi_8_21 : FI 8 49 21 (tyX8 21) := ⟨RX8, TX8, tyX8, rfl, by decide +kernel, tyX8_ok, nmX8⟩
theorem fln_X8_68 : FL RX8 68 8 49 22 := ⟨RX8, TX8, rfl, by decide, rfl, by decide +kernel, inn_8⟩
theorem fi_8_22 : FI 8 49 22 (tyX8 22) := ⟨RX8, TX8, tyX8, rfl, by decide +kernel, tyX8_ok, nmX8⟩
theorem fln_X8_71 : FL RX8 71 8 49 24 := ⟨RX8, TX8, rfl, by decide, rfl, by decide +kernel, inn_8⟩
theorem fi_8_24 : FI 8 49 24 (tyX8 24) := ⟨RX8, TX8, tyX8, rfl, by decide +kernel, tyX8_ok, nmX8⟩
theorem fln_X8_74 : FL RX8 74 8 49 25 := ⟨RX8, TX8, rfl, by decide, rfl, by decide +kernel, inn_8⟩
theorem fi_8_25 : FI 8 49 25 (tyX8 25) := ⟨RX8, TX8, tyX8, rfl, by decide +kernel, tyX8_ok, nmX8⟩
theorem fln_X8_77 : FL RX8 77 8 49 26 := ⟨RX8, TX8, rfl, by decide, rfl, by decide +kernel, inn_8⟩
theorem fi_8_26 : FI 8 49 26 (tyX8 26) := ⟨RX8, TX8, tyX8, rfl, by decide +kernel, tyX8_ok, nmX8⟩
theorem fln_X8_80 : FL RX8 80 8 49 30 := ⟨RX8, TX8, rfl, by decide, rfl, by decide +kernel, inn_8⟩
theorem fi_8_30 : FI 8 49 30 (tyX8 30) := ⟨RX8, TX8, tyX8, rfl, by decide +kernel, tyX8_ok, nmX8⟩
theorem fln_X8_83 : FL RX8 83 8 49 31 := ⟨RX8, TX8, rfl, by decide, rfl, by decide +kernel, inn_8⟩
theorem fi_8_31 : FI 8 49 31 (tyX8 31) := ⟨RX8, TX8, tyX8, rfl, by decide +kernel, tyX8_ok, nmX8⟩
theorem fln_X8_86 : FL RX8 86 8 49 32 := ⟨RX8, TX8, rfl, by decide, rfl, by decide +kernel, inn_8⟩
theorem fi_8_32 : FI 8 49 32 (tyX8 32) := ⟨RX8, TX8, tyX8, rfl, by decide +kernel, tyX8_ok, nmX8⟩
theorem fln_X8_89 : FL RX8 89 8 49 33 := ⟨RX8, TX8, rfl, by decide, rfl, by decide +kernel, inn_8⟩
theorem fi_8_33 : FI 8 49 33 (tyX8 33) := ⟨RX8, TX8, tyX8, rfl, by decide +kernel, tyX8_ok, nmX8⟩
theorem fln_X8_92 : FL RX8 92 8 49 34 := ⟨RX8, TX8, rfl, by decide, rfl, by decide +kernel, inn_8⟩
theorem fi_8_34 : FI 8 49 34 (tyX8 34) := ⟨RX8, TX8, tyX8, rfl, by decide +kernel, tyX8_ok, nmX8⟩
theorem fln_X8_95 : FL RX8 95 8 49 36 := ⟨RX8, TX8, rfl, by decide, rfl, by decide +kernel, inn_8⟩
theorem fi_8_36 : FI 8 49 36 (tyX8 36) := ⟨RX8, TX8, tyX8, rfl, by decide +kernel, tyX8_ok, nmX8⟩
theorem fln_X8_98 : FL RX8 98 8 49 37 := ⟨RX8, TX8, rfl, by decide, rfl, by decide +kernel, inn_8⟩
theorem fi_8_37 : FI 8 49 37 (tyX8 37) := ⟨RX8, TX8, tyX8, rfl, by decide +kernel, tyX8_ok, nmX8⟩
theorem fln_X8_101 : FL RX8 101 8 49 38 := ⟨RX8, TX8, rfl, by decide, rfl, by decide +kernel, inn_8⟩
theorem fi_8_38 : FI 8 49 38 (tyX8 38) := ⟨RX8, TX8, tyX8, rfl, by decide +kernel, tyX8_ok, nmX8⟩
theorem fln_X8_104 : FL RX8 104 8 49 39 := ⟨RX8, TX8, rfl, by decide, rfl, by decide +kernel, inn_8⟩
theorem fi_8_39 : FI 8 49 39 (tyX8 39) := ⟨RX8, TX8, tyX8, rfl, by decide +kernel, tyX8_ok, nmX8⟩
theorem fln_X8_107 : FL RX8 107 8 49 40 := ⟨RX8, TX8, rfl, by decide, rfl, by decide +kernel, inn_8⟩
theorem fi_8_40 : FI 8 49 40 (tyX8 40) := ⟨RX8, TX8, tyX8, rfl, by decide +kernel, tyX8_ok, nmX8⟩
theorem fln_X8_110 : FL RX8 110 8 49 42 := ⟨RX8, TX8, rfl, by decide, rfl, by decide +kernel, inn_8⟩
theorem fi_8_42 : FI 8 49 42 (tyX8 42) := ⟨RX8, TX8, tyX8, rfl, by decide +kernel, tyX8_ok, nmX8⟩
theorem fln_X8_113 : FL RX8 113 8 49 43 := ⟨RX8, TX8, rfl, by decide, rfl, by decide +kernel, inn_8⟩
theorem fi_8_43 : FI 8 49 43 (tyX8 43) := ⟨RX8, TX8, tyX8, rfl, by decide +kernel, tyX8_ok, nmX8⟩
theorem fln_X8_116 : FL RX8 116 8 49 44 := ⟨RX8, TX8, rfl, by decide, rfl, by decide +kernel, inn_8⟩
theorem fi_8_44 : FI 8 49 44 (tyX8 44) := ⟨RX8, TX8, tyX8, rfl, by decide +kernel, tyX8_ok, nmX8⟩
theorem fln_X8_119 : FL RX8 119 8 49 45 := ⟨RX8, TX8, rfl, by decide, rfl, by decide +kernel, inn_8⟩
theorem fi_8_45 : FI 8 49 45 (tyX8 45) := ⟨RX8, TX8, tyX8, rfl, by decide +kernel, tyX8_ok, nmX8⟩
theorem fln_X8_122 : FL RX8 122 8 49 46 := ⟨RX8, TX8, rfl, by decide, rfl, by decide +kernel, inn_8⟩
theorem fi_8_46 : FI 8 49 46 (tyX8 46) := ⟨RX8, TX8, tyX8, rfl, by decide +kernel, tyX8_ok, nmX8⟩
theorem fln_X8_125 : FL RX8 125 8 49 47 := ⟨RX8, TX8, rfl, by decide, rfl, by decide +kernel, inn_8⟩
theorem fi_8_47 : FI 8 49 47 (tyX8 47) := ⟨RX8, TX8, tyX8, rfl, by decide +kernel, tyX8_ok, nmX8⟩
theorem fln_X8_128 : FL RX8 128 8 49 48 := ⟨RX8, TX8, rfl, by decide, rfl, by decide +kernel, inn_8⟩
theorem fi_8_48 : FI 8 49 48 (tyX8 48) := ⟨RX8, TX8, tyX8, rfl, by decide +kernel, tyX8_ok, nmX8⟩
set_option maxRecDepth 20000 in
set_option maxHeartbeats 4000000 in
theorem mch_0 {d : Nat} {X : MX} {Y : MY} {B : Heap} {QQ : Array Value → State → Outcome → State → Prop} (k : WD true (d + 1) X Y (39, 1856) mi_X8_init 46 B 16 [] [.inl (7, [.ref (B.size + 1), .ref (B.size + 3), .ref (B.size + 7), .ref (B.size + 12)]), .inl (6, [.ref (B.size + 2), .int 0, .int 0]), .inr (2, 60, fun _ => .null), .inl (2, [.ref (B.size + 4), .ref (B.size + 5), .ref (B.size + 6), .int 7, .int 0]), .inr (0, 8, fun _ => .int 0), .inr (0, 8, fun _ => .int 0), .inr (0, 64, fun _ => .int 0), .inl (5, [.ref (B.size + 8), .ref (B.size + 9), .ref (B.size + 10), .ref (B.size + 11), .int 1, .int 255]), .inr (0, 40, updV (fun _ => .int 0) (ix 0) (.int 9)), .inr (0, 40, updV (fun _ => .int 0) (ix 0) (.int 9)), .inr (0, 40, updV (fun _ => .int 0) (ix 0) (.int 1)), .inr (0, 40, fun _ => .int 0), .inl (0, [.ref (B.size + 13), .int 0, .ref (B.size + 14), .int 0, .ref (B.size + 15)]), .inr (3, 12, fun _ => .null), .inr (0, 500, fun _ => .int 0), .inr (0, 12, fun _ => .int 0), .inl (8, [.ref (B.size + 17), .null, .null, .null, .null, .null, .int 0, .null, .null, .null, .null, .null, .null, .null, .int 0, .null, .null, .int 0, .null, .null, .null, .null, .null, .int 0, .null, .null, .null, .int 0, .int 0, .int 0, .null, .null, .null, .null, .null, .int 0, .null, .null, .null, .null, .null, .int 0, .null, .null, .null, .null, .null, .null, .null]), .inr (0, 8, updV (updV (updV (updV (updV (updV (updV (updV (fun _ => .int 0) (ix 0) (.int 1)) (ix 1) (.int 0)) (ix 2) (.int 1)) (ix 3) (.int 1)) (ix 4) (.int (-1))) (ix 5) (.int 0)) (ix 6) (.int (-1))) (ix 7) (.int (-1)))] QQ) : WD true (d + 1) X Y (40, 1864) mi_X8_init 0 B 16 [] [.inl (7, [.ref (B.size + 1), .ref (B.size + 3), .ref (B.size + 7), .ref (B.size + 12)]), .inl (6, [.ref (B.size + 2), .int 0, .int 0]), .inr (2, 60, fun _ => .null), .inl (2, [.ref (B.size + 4), .ref (B.size + 5), .ref (B.size + 6), .int 7, .int 0]), .inr (0, 8, fun _ => .int 0), .inr (0, 8, fun _ => .int 0), .inr (0, 64, fun _ => .int 0), .inl (5, [.ref (B.size + 8), .ref (B.size + 9), .ref (B.size + 10), .ref (B.size + 11), .int 1, .int 255]), .inr (0, 40, updV (fun _ => .int 0) (ix 0) (.int 9)), .inr (0, 40, updV (fun _ => .int 0) (ix 0) (.int 9)), .inr (0, 40, updV (fun _ => .int 0) (ix 0) (.int 1)), .inr (0, 40, fun _ => .int 0), .inl (0, [.ref (B.size + 13), .int 0, .ref (B.size + 14), .int 0, .ref (B.size + 15)]), .inr (3, 12, fun _ => .null), .inr (0, 500, fun _ => .int 0), .inr (0, 12, fun _ => .int 0), .inl (8, [.null, .null, .null, .null, .null, .null, .int 0, .null, .null, .null, .null, .null, .null, .null, .int 0, .null, .null, .int 0, .null, .null, .null, .null, .null, .int 0, .null, .null, .null, .int 0, .int 0, .int 0, .null, .null, .null, .null, .null, .int 0, .null, .null, .null, .null, .null, .int 0, .null, .null, .null, .null, .null, .null, .null])] QQ := by
  refine e_load0 (pc' := 1) d_X8_init_0 rfl ?_
  refine e_obj (pc' := 4) co_X8_1 d_X8_init_1 rfl rfl ?_
  refine e_load0 (pc' := 5) d_X8_init_4 rfl ?_
  refine e_bipush (pc' := 7) (x := 8) d_X8_init_5 (by decide) rfl ?_
  refine e_newarr (b' := (39, 1856)) (t := 0) (N := 8) (pc' := 9) rfl (by decide) ac_0 d_X8_init_7 (by decide) (by decide) (by decide) rfl rfl rfl ?_
  refine e_dup (pc' := 10) d_X8_init_9 rfl rfl ?_
  refine e_iconst (pc' := 11) (x := 0) d_X8_init_10 (by decide) rfl ?_
  refine e_iconst (pc' := 12) (x := 1) d_X8_init_11 (by decide) rfl ?_
  refine e_iast (j := 17) (pc' := 13) d_X8_init_12 rfl (by decide) rfl ?_
  refine e_dup (pc' := 14) d_X8_init_13 rfl rfl ?_
  refine e_iconst (pc' := 15) (x := 1) d_X8_init_14 (by decide) rfl ?_
  refine e_iconst (pc' := 16) (x := 0) d_X8_init_15 (by decide) rfl ?_
  refine e_iast (j := 17) (pc' := 17) d_X8_init_16 rfl (by decide) rfl ?_
  refine e_dup (pc' := 18) d_X8_init_17 rfl rfl ?_
  refine e_iconst (pc' := 19) (x := 2) d_X8_init_18 (by decide) rfl ?_
  refine e_iconst (pc' := 20) (x := 1) d_X8_init_19 (by decide) rfl ?_
  refine e_iast (j := 17) (pc' := 21) d_X8_init_20 rfl (by decide) rfl ?_
  refine e_dup (pc' := 22) d_X8_init_21 rfl rfl ?_
  refine e_iconst (pc' := 23) (x := 3) d_X8_init_22 (by decide) rfl ?_
  refine e_iconst (pc' := 24) (x := 1) d_X8_init_23 (by decide) rfl ?_
  refine e_iast (j := 17) (pc' := 25) d_X8_init_24 rfl (by decide) rfl ?_
  refine e_dup (pc' := 26) d_X8_init_25 rfl rfl ?_
  refine e_iconst (pc' := 27) (x := 4) d_X8_init_26 (by decide) rfl ?_
  refine e_iconst (pc' := 28) (x := -1) d_X8_init_27 (by decide) rfl ?_
  refine e_iast (j := 17) (pc' := 29) d_X8_init_28 rfl (by decide) rfl ?_
  refine e_dup (pc' := 30) d_X8_init_29 rfl rfl ?_
  refine e_iconst (pc' := 31) (x := 5) d_X8_init_30 (by decide) rfl ?_
  refine e_iconst (pc' := 32) (x := 0) d_X8_init_31 (by decide) rfl ?_
  refine e_iast (j := 17) (pc' := 33) d_X8_init_32 rfl (by decide) rfl ?_
  refine e_dup (pc' := 34) d_X8_init_33 rfl rfl ?_
  refine e_bipush (pc' := 36) (x := 6) d_X8_init_34 (by decide) rfl ?_
  refine e_iconst (pc' := 37) (x := -1) d_X8_init_36 (by decide) rfl ?_
  refine e_iast (j := 17) (pc' := 38) d_X8_init_37 rfl (by decide) rfl ?_
  refine e_dup (pc' := 39) d_X8_init_38 rfl rfl ?_
  refine e_bipush (pc' := 41) (x := 7) d_X8_init_39 (by decide) rfl ?_
  refine e_iconst (pc' := 42) (x := -1) d_X8_init_41 (by decide) rfl ?_
  refine e_iast (j := 17) (pc' := 43) d_X8_init_42 rfl (by decide) rfl ?_
  refine e_put (j := 16) (pc' := 46) fln_X8_7 fi_8_0 rfl d_X8_init_43 rfl rfl rfl rfl rfl ?_
  exact e_norm rfl k
set_option maxRecDepth 20000 in
set_option maxHeartbeats 4000000 in
theorem mch_46 {d : Nat} {X : MX} {Y : MY} {B : Heap} {QQ : Array Value → State → Outcome → State → Prop} (k : WD true (d + 1) X Y (38, 1848) mi_X8_init 88 B 16 [] [.inl (7, [.ref (B.size + 1), .ref (B.size + 3), .ref (B.size + 7), .ref (B.size + 12)]), .inl (6, [.ref (B.size + 2), .int 0, .int 0]), .inr (2, 60, fun _ => .null), .inl (2, [.ref (B.size + 4), .ref (B.size + 5), .ref (B.size + 6), .int 7, .int 0]), .inr (0, 8, fun _ => .int 0), .inr (0, 8, fun _ => .int 0), .inr (0, 64, fun _ => .int 0), .inl (5, [.ref (B.size + 8), .ref (B.size + 9), .ref (B.size + 10), .ref (B.size + 11), .int 1, .int 255]), .inr (0, 40, updV (fun _ => .int 0) (ix 0) (.int 9)), .inr (0, 40, updV (fun _ => .int 0) (ix 0) (.int 9)), .inr (0, 40, updV (fun _ => .int 0) (ix 0) (.int 1)), .inr (0, 40, fun _ => .int 0), .inl (0, [.ref (B.size + 13), .int 0, .ref (B.size + 14), .int 0, .ref (B.size + 15)]), .inr (3, 12, fun _ => .null), .inr (0, 500, fun _ => .int 0), .inr (0, 12, fun _ => .int 0), .inl (8, [.ref (B.size + 17), .ref (B.size + 18), .null, .null, .null, .null, .int 0, .null, .null, .null, .null, .null, .null, .null, .int 0, .null, .null, .int 0, .null, .null, .null, .null, .null, .int 0, .null, .null, .null, .int 0, .int 0, .int 0, .null, .null, .null, .null, .null, .int 0, .null, .null, .null, .null, .null, .int 0, .null, .null, .null, .null, .null, .null, .null]), .inr (0, 8, updV (updV (updV (updV (updV (updV (updV (updV (fun _ => .int 0) (ix 0) (.int 1)) (ix 1) (.int 0)) (ix 2) (.int 1)) (ix 3) (.int 1)) (ix 4) (.int (-1))) (ix 5) (.int 0)) (ix 6) (.int (-1))) (ix 7) (.int (-1))), .inr (0, 8, updV (updV (updV (updV (updV (updV (updV (updV (fun _ => .int 0) (ix 0) (.int 0)) (ix 1) (.int 1)) (ix 2) (.int 1)) (ix 3) (.int (-1))) (ix 4) (.int 0)) (ix 5) (.int (-1))) (ix 6) (.int (-1))) (ix 7) (.int 1))] QQ) : WD true (d + 1) X Y (39, 1856) mi_X8_init 46 B 16 [] [.inl (7, [.ref (B.size + 1), .ref (B.size + 3), .ref (B.size + 7), .ref (B.size + 12)]), .inl (6, [.ref (B.size + 2), .int 0, .int 0]), .inr (2, 60, fun _ => .null), .inl (2, [.ref (B.size + 4), .ref (B.size + 5), .ref (B.size + 6), .int 7, .int 0]), .inr (0, 8, fun _ => .int 0), .inr (0, 8, fun _ => .int 0), .inr (0, 64, fun _ => .int 0), .inl (5, [.ref (B.size + 8), .ref (B.size + 9), .ref (B.size + 10), .ref (B.size + 11), .int 1, .int 255]), .inr (0, 40, updV (fun _ => .int 0) (ix 0) (.int 9)), .inr (0, 40, updV (fun _ => .int 0) (ix 0) (.int 9)), .inr (0, 40, updV (fun _ => .int 0) (ix 0) (.int 1)), .inr (0, 40, fun _ => .int 0), .inl (0, [.ref (B.size + 13), .int 0, .ref (B.size + 14), .int 0, .ref (B.size + 15)]), .inr (3, 12, fun _ => .null), .inr (0, 500, fun _ => .int 0), .inr (0, 12, fun _ => .int 0), .inl (8, [.ref (B.size + 17), .null, .null, .null, .null, .null, .int 0, .null, .null, .null, .null, .null, .null, .null, .int 0, .null, .null, .int 0, .null, .null, .null, .null, .null, .int 0, .null, .null, .null, .int 0, .int 0, .int 0, .null, .null, .null, .null, .null, .int 0, .null, .null, .null, .null, .null, .int 0, .null, .null, .null, .null, .null, .null, .null]), .inr (0, 8, updV (updV (updV (updV (updV (updV (updV (updV (fun _ => .int 0) (ix 0) (.int 1)) (ix 1) (.int 0)) (ix 2) (.int 1)) (ix 3) (.int 1)) (ix 4) (.int (-1))) (ix 5) (.int 0)) (ix 6) (.int (-1))) (ix 7) (.int (-1)))] QQ := by
  refine e_load0 (pc' := 47) d_X8_init_46 rfl ?_
  refine e_bipush (pc' := 49) (x := 8) d_X8_init_47 (by decide) rfl ?_
  refine e_newarr (b' := (38, 1848)) (t := 0) (N := 8) (pc' := 51) rfl (by decide) ac_0 d_X8_init_49 (by decide) (by decide) (by decide) rfl rfl rfl ?_
  refine e_dup (pc' := 52) d_X8_init_51 rfl rfl ?_
  refine e_iconst (pc' := 53) (x := 0) d_X8_init_52 (by decide) rfl ?_
  refine e_iconst (pc' := 54) (x := 0) d_X8_init_53 (by decide) rfl ?_
  refine e_iast (j := 18) (pc' := 55) d_X8_init_54 rfl (by decide) rfl ?_
  refine e_dup (pc' := 56) d_X8_init_55 rfl rfl ?_
  refine e_iconst (pc' := 57) (x := 1) d_X8_init_56 (by decide) rfl ?_
  refine e_iconst (pc' := 58) (x := 1) d_X8_init_57 (by decide) rfl ?_
  refine e_iast (j := 18) (pc' := 59) d_X8_init_58 rfl (by decide) rfl ?_
  refine e_dup (pc' := 60) d_X8_init_59 rfl rfl ?_
  refine e_iconst (pc' := 61) (x := 2) d_X8_init_60 (by decide) rfl ?_
  refine e_iconst (pc' := 62) (x := 1) d_X8_init_61 (by decide) rfl ?_
  refine e_iast (j := 18) (pc' := 63) d_X8_init_62 rfl (by decide) rfl ?_
  refine e_dup (pc' := 64) d_X8_init_63 rfl rfl ?_
  refine e_iconst (pc' := 65) (x := 3) d_X8_init_64 (by decide) rfl ?_
  refine e_iconst (pc' := 66) (x := -1) d_X8_init_65 (by decide) rfl ?_
  refine e_iast (j := 18) (pc' := 67) d_X8_init_66 rfl (by decide) rfl ?_
  refine e_dup (pc' := 68) d_X8_init_67 rfl rfl ?_
  refine e_iconst (pc' := 69) (x := 4) d_X8_init_68 (by decide) rfl ?_
  refine e_iconst (pc' := 70) (x := 0) d_X8_init_69 (by decide) rfl ?_
  refine e_iast (j := 18) (pc' := 71) d_X8_init_70 rfl (by decide) rfl ?_
  refine e_dup (pc' := 72) d_X8_init_71 rfl rfl ?_
  refine e_iconst (pc' := 73) (x := 5) d_X8_init_72 (by decide) rfl ?_
  refine e_iconst (pc' := 74) (x := -1) d_X8_init_73 (by decide) rfl ?_
  refine e_iast (j := 18) (pc' := 75) d_X8_init_74 rfl (by decide) rfl ?_
  refine e_dup (pc' := 76) d_X8_init_75 rfl rfl ?_
  refine e_bipush (pc' := 78) (x := 6) d_X8_init_76 (by decide) rfl ?_
  refine e_iconst (pc' := 79) (x := -1) d_X8_init_78 (by decide) rfl ?_
  refine e_iast (j := 18) (pc' := 80) d_X8_init_79 rfl (by decide) rfl ?_
  refine e_dup (pc' := 81) d_X8_init_80 rfl rfl ?_
  refine e_bipush (pc' := 83) (x := 7) d_X8_init_81 (by decide) rfl ?_
  refine e_iconst (pc' := 84) (x := 1) d_X8_init_83 (by decide) rfl ?_
  refine e_iast (j := 18) (pc' := 85) d_X8_init_84 rfl (by decide) rfl ?_
  refine e_put (j := 16) (pc' := 88) fln_X8_13 fi_8_1 rfl d_X8_init_85 rfl rfl rfl rfl rfl ?_
  exact e_norm rfl k
set_option maxRecDepth 20000 in
set_option maxHeartbeats 4000000 in
theorem mch_88 {d : Nat} {X : MX} {Y : MY} {B : Heap} {QQ : Array Value → State → Outcome → State → Prop} (k : WD true (d + 1) X Y (37, 1840) mi_X8_init 132 B 16 [] [.inl (7, [.ref (B.size + 1), .ref (B.size + 3), .ref (B.size + 7), .ref (B.size + 12)]), .inl (6, [.ref (B.size + 2), .int 0, .int 0]), .inr (2, 60, fun _ => .null), .inl (2, [.ref (B.size + 4), .ref (B.size + 5), .ref (B.size + 6), .int 7, .int 0]), .inr (0, 8, fun _ => .int 0), .inr (0, 8, fun _ => .int 0), .inr (0, 64, fun _ => .int 0), .inl (5, [.ref (B.size + 8), .ref (B.size + 9), .ref (B.size + 10), .ref (B.size + 11), .int 1, .int 255]), .inr (0, 40, updV (fun _ => .int 0) (ix 0) (.int 9)), .inr (0, 40, updV (fun _ => .int 0) (ix 0) (.int 9)), .inr (0, 40, updV (fun _ => .int 0) (ix 0) (.int 1)), .inr (0, 40, fun _ => .int 0), .inl (0, [.ref (B.size + 13), .int 0, .ref (B.size + 14), .int 0, .ref (B.size + 15)]), .inr (3, 12, fun _ => .null), .inr (0, 500, fun _ => .int 0), .inr (0, 12, fun _ => .int 0), .inl (8, [.ref (B.size + 17), .ref (B.size + 18), .ref (B.size + 19), .null, .null, .null, .int 0, .null, .null, .null, .null, .null, .null, .null, .int 0, .null, .null, .int 0, .null, .null, .null, .null, .null, .int 0, .null, .null, .null, .int 0, .int 0, .int 0, .null, .null, .null, .null, .null, .int 0, .null, .null, .null, .null, .null, .int 0, .null, .null, .null, .null, .null, .null, .null]), .inr (0, 8, updV (updV (updV (updV (updV (updV (updV (updV (fun _ => .int 0) (ix 0) (.int 1)) (ix 1) (.int 0)) (ix 2) (.int 1)) (ix 3) (.int 1)) (ix 4) (.int (-1))) (ix 5) (.int 0)) (ix 6) (.int (-1))) (ix 7) (.int (-1))), .inr (0, 8, updV (updV (updV (updV (updV (updV (updV (updV (fun _ => .int 0) (ix 0) (.int 0)) (ix 1) (.int 1)) (ix 2) (.int 1)) (ix 3) (.int (-1))) (ix 4) (.int 0)) (ix 5) (.int (-1))) (ix 6) (.int (-1))) (ix 7) (.int 1)), .inr (0, 8, updV (updV (updV (updV (updV (updV (updV (updV (fun _ => .int 0) (ix 0) (.int 0)) (ix 1) (.int 2)) (ix 2) (.int 1)) (ix 3) (.int 7)) (ix 4) (.int 4)) (ix 5) (.int 6)) (ix 6) (.int 5)) (ix 7) (.int 3))] QQ) : WD true (d + 1) X Y (38, 1848) mi_X8_init 88 B 16 [] [.inl (7, [.ref (B.size + 1), .ref (B.size + 3), .ref (B.size + 7), .ref (B.size + 12)]), .inl (6, [.ref (B.size + 2), .int 0, .int 0]), .inr (2, 60, fun _ => .null), .inl (2, [.ref (B.size + 4), .ref (B.size + 5), .ref (B.size + 6), .int 7, .int 0]), .inr (0, 8, fun _ => .int 0), .inr (0, 8, fun _ => .int 0), .inr (0, 64, fun _ => .int 0), .inl (5, [.ref (B.size + 8), .ref (B.size + 9), .ref (B.size + 10), .ref (B.size + 11), .int 1, .int 255]), .inr (0, 40, updV (fun _ => .int 0) (ix 0) (.int 9)), .inr (0, 40, updV (fun _ => .int 0) (ix 0) (.int 9)), .inr (0, 40, updV (fun _ => .int 0) (ix 0) (.int 1)), .inr (0, 40, fun _ => .int 0), .inl (0, [.ref (B.size + 13), .int 0, .ref (B.size + 14), .int 0, .ref (B.size + 15)]), .inr (3, 12, fun _ => .null), .inr (0, 500, fun _ => .int 0), .inr (0, 12, fun _ => .int 0), .inl (8, [.ref (B.size + 17), .ref (B.size + 18), .null, .null, .null, .null, .int 0, .null, .null, .null, .null, .null, .null, .null, .int 0, .null, .null, .int 0, .null, .null, .null, .null, .null, .int 0, .null, .null, .null, .int 0, .int 0, .int 0, .null, .null, .null, .null, .null, .int 0, .null, .null, .null, .null, .null, .int 0, .null, .null, .null, .null, .null, .null, .null]), .inr (0, 8, updV (updV (updV (updV (updV (updV (updV (updV (fun _ => .int 0) (ix 0) (.int 1)) (ix 1) (.int 0)) (ix 2) (.int 1)) (ix 3) (.int 1)) (ix 4) (.int (-1))) (ix 5) (.int 0)) (ix 6) (.int (-1))) (ix 7) (.int (-1))), .inr (0, 8, updV (updV (updV (updV (updV (updV (updV (updV (fun _ => .int 0) (ix 0) (.int 0)) (ix 1) (.int 1)) (ix 2) (.int 1)) (ix 3) (.int (-1))) (ix 4) (.int 0)) (ix 5) (.int (-1))) (ix 6) (.int (-1))) (ix 7) (.int 1))] QQ := by
  refine e_load0 (pc' := 89) d_X8_init_88 rfl ?_
  refine e_bipush (pc' := 91) (x := 8) d_X8_init_89 (by decide) rfl ?_
  refine e_newarr (b' := (37, 1840)) (t := 0) (N := 8) (pc' := 93) rfl (by decide) ac_0 d_X8_init_91 (by decide) (by decide) (by decide) rfl rfl rfl ?_
  refine e_dup (pc' := 94) d_X8_init_93 rfl rfl ?_
  refine e_iconst (pc' := 95) (x := 0) d_X8_init_94 (by decide) rfl ?_
  refine e_iconst (pc' := 96) (x := 0) d_X8_init_95 (by decide) rfl ?_
  refine e_iast (j := 19) (pc' := 97) d_X8_init_96 rfl (by decide) rfl ?_
  refine e_dup (pc' := 98) d_X8_init_97 rfl rfl ?_
  refine e_iconst (pc' := 99) (x := 1) d_X8_init_98 (by decide) rfl ?_
  refine e_iconst (pc' := 100) (x := 2) d_X8_init_99 (by decide) rfl ?_
  refine e_iast (j := 19) (pc' := 101) d_X8_init_100 rfl (by decide) rfl ?_
  refine e_dup (pc' := 102) d_X8_init_101 rfl rfl ?_
  refine e_iconst (pc' := 103) (x := 2) d_X8_init_102 (by decide) rfl ?_
  refine e_iconst (pc' := 104) (x := 1) d_X8_init_103 (by decide) rfl ?_
  refine e_iast (j := 19) (pc' := 105) d_X8_init_104 rfl (by decide) rfl ?_
  refine e_dup (pc' := 106) d_X8_init_105 rfl rfl ?_
  refine e_iconst (pc' := 107) (x := 3) d_X8_init_106 (by decide) rfl ?_
  refine e_bipush (pc' := 109) (x := 7) d_X8_init_107 (by decide) rfl ?_
  refine e_iast (j := 19) (pc' := 110) d_X8_init_109 rfl (by decide) rfl ?_
  refine e_dup (pc' := 111) d_X8_init_110 rfl rfl ?_
  refine e_iconst (pc' := 112) (x := 4) d_X8_init_111 (by decide) rfl ?_
  refine e_iconst (pc' := 113) (x := 4) d_X8_init_112 (by decide) rfl ?_
  refine e_iast (j := 19) (pc' := 114) d_X8_init_113 rfl (by decide) rfl ?_
  refine e_dup (pc' := 115) d_X8_init_114 rfl rfl ?_
  refine e_iconst (pc' := 116) (x := 5) d_X8_init_115 (by decide) rfl ?_
  refine e_bipush (pc' := 118) (x := 6) d_X8_init_116 (by decide) rfl ?_
  refine e_iast (j := 19) (pc' := 119) d_X8_init_118 rfl (by decide) rfl ?_
  refine e_dup (pc' := 120) d_X8_init_119 rfl rfl ?_
  refine e_bipush (pc' := 122) (x := 6) d_X8_init_120 (by decide) rfl ?_
  refine e_iconst (pc' := 123) (x := 5) d_X8_init_122 (by decide) rfl ?_
  refine e_iast (j := 19) (pc' := 124) d_X8_init_123 rfl (by decide) rfl ?_
  refine e_dup (pc' := 125) d_X8_init_124 rfl rfl ?_
  refine e_bipush (pc' := 127) (x := 7) d_X8_init_125 (by decide) rfl ?_
  refine e_iconst (pc' := 128) (x := 3) d_X8_init_127 (by decide) rfl ?_
  refine e_iast (j := 19) (pc' := 129) d_X8_init_128 rfl (by decide) rfl ?_
  refine e_put (j := 16) (pc' := 132) fln_X8_16 fi_8_2 rfl d_X8_init_129 rfl rfl rfl rfl rfl ?_
  exact e_norm rfl k
set_option maxRecDepth 20000 in
set_option maxHeartbeats 4000000 in
theorem mch_132 {d : Nat} {X : MX} {Y : MY} {B : Heap} {QQ : Array Value → State → Outcome → State → Prop} (k : WD true (d + 1) X Y (36, 1832) mi_X8_init 176 B 16 [] [.inl (7, [.ref (B.size + 1), .ref (B.size + 3), .ref (B.size + 7), .ref (B.size + 12)]), .inl (6, [.ref (B.size + 2), .int 0, .int 0]), .inr (2, 60, fun _ => .null), .inl (2, [.ref (B.size + 4), .ref (B.size + 5), .ref (B.size + 6), .int 7, .int 0]), .inr (0, 8, fun _ => .int 0), .inr (0, 8, fun _ => .int 0), .inr (0, 64, fun _ => .int 0), .inl (5, [.ref (B.size + 8), .ref (B.size + 9), .ref (B.size + 10), .ref (B.size + 11), .int 1, .int 255]), .inr (0, 40, updV (fun _ => .int 0) (ix 0) (.int 9)), .inr (0, 40, updV (fun _ => .int 0) (ix 0) (.int 9)), .inr (0, 40, updV (fun _ => .int 0) (ix 0) (.int 1)), .inr (0, 40, fun _ => .int 0), .inl (0, [.ref (B.size + 13), .int 0, .ref (B.size + 14), .int 0, .ref (B.size + 15)]), .inr (3, 12, fun _ => .null), .inr (0, 500, fun _ => .int 0), .inr (0, 12, fun _ => .int 0), .inl (8, [.ref (B.size + 17), .ref (B.size + 18), .ref (B.size + 19), .ref (B.size + 20), .null, .null, .int 0, .null, .null, .null, .null, .null, .null, .null, .int 0, .null, .null, .int 0, .null, .null, .null, .null, .null, .int 0, .null, .null, .null, .int 0, .int 0, .int 0, .null, .null, .null, .null, .null, .int 0, .null, .null, .null, .null, .null, .int 0, .null, .null, .null, .null, .null, .null, .null]), .inr (0, 8, updV (updV (updV (updV (updV (updV (updV (updV (fun _ => .int 0) (ix 0) (.int 1)) (ix 1) (.int 0)) (ix 2) (.int 1)) (ix 3) (.int 1)) (ix 4) (.int (-1))) (ix 5) (.int 0)) (ix 6) (.int (-1))) (ix 7) (.int (-1))), .inr (0, 8, updV (updV (updV (updV (updV (updV (updV (updV (fun _ => .int 0) (ix 0) (.int 0)) (ix 1) (.int 1)) (ix 2) (.int 1)) (ix 3) (.int (-1))) (ix 4) (.int 0)) (ix 5) (.int (-1))) (ix 6) (.int (-1))) (ix 7) (.int 1)), .inr (0, 8, updV (updV (updV (updV (updV (updV (updV (updV (fun _ => .int 0) (ix 0) (.int 0)) (ix 1) (.int 2)) (ix 2) (.int 1)) (ix 3) (.int 7)) (ix 4) (.int 4)) (ix 5) (.int 6)) (ix 6) (.int 5)) (ix 7) (.int 3)), .inr (0, 8, updV (updV (updV (updV (updV (updV (updV (updV (fun _ => .int 0) (ix 0) (.int 1)) (ix 1) (.int 4)) (ix 2) (.int 7)) (ix 3) (.int 2)) (ix 4) (.int 5)) (ix 5) (.int 0)) (ix 6) (.int 3)) (ix 7) (.int 6))] QQ) : WD true (d + 1) X Y (37, 1840) mi_X8_init 132 B 16 [] [.inl (7, [.ref (B.size + 1), .ref (B.size + 3), .ref (B.size + 7), .ref (B.size + 12)]), .inl (6, [.ref (B.size + 2), .int 0, .int 0]), .inr (2, 60, fun _ => .null), .inl (2, [.ref (B.size + 4), .ref (B.size + 5), .ref (B.size + 6), .int 7, .int 0]), .inr (0, 8, fun _ => .int 0), .inr (0, 8, fun _ => .int 0), .inr (0, 64, fun _ => .int 0), .inl (5, [.ref (B.size + 8), .ref (B.size + 9), .ref (B.size + 10), .ref (B.size + 11), .int 1, .int 255]), .inr (0, 40, updV (fun _ => .int 0) (ix 0) (.int 9)), .inr (0, 40, updV (fun _ => .int 0) (ix 0) (.int 9)), .inr (0, 40, updV (fun _ => .int 0) (ix 0) (.int 1)), .inr (0, 40, fun _ => .int 0), .inl (0, [.ref (B.size + 13), .int 0, .ref (B.size + 14), .int 0, .ref (B.size + 15)]), .inr (3, 12, fun _ => .null), .inr (0, 500, fun _ => .int 0), .inr (0, 12, fun _ => .int 0), .inl (8, [.ref (B.size + 17), .ref (B.size + 18), .ref (B.size + 19), .null, .null, .null, .int 0, .null, .null, .null, .null, .null, .null, .null, .int 0, .null, .null, .int 0, .null, .null, .null, .null, .null, .int 0, .null, .null, .null, .int 0, .int 0, .int 0, .null, .null, .null, .null, .null, .int 0, .null, .null, .null, .null, .null, .int 0, .null, .null, .null, .null, .null, .null, .null]), .inr (0, 8, updV (updV (updV (updV (updV (updV (updV (updV (fun _ => .int 0) (ix 0) (.int 1)) (ix 1) (.int 0)) (ix 2) (.int 1)) (ix 3) (.int 1)) (ix 4) (.int (-1))) (ix 5) (.int 0)) (ix 6) (.int (-1))) (ix 7) (.int (-1))), .inr (0, 8, updV (updV (updV (updV (updV (updV (updV (updV (fun _ => .int 0) (ix 0) (.int 0)) (ix 1) (.int 1)) (ix 2) (.int 1)) (ix 3) (.int (-1))) (ix 4) (.int 0)) (ix 5) (.int (-1))) (ix 6) (.int (-1))) (ix 7) (.int 1)), .inr (0, 8, updV (updV (updV (updV (updV (updV (updV (updV (fun _ => .int 0) (ix 0) (.int 0)) (ix 1) (.int 2)) (ix 2) (.int 1)) (ix 3) (.int 7)) (ix 4) (.int 4)) (ix 5) (.int 6)) (ix 6) (.int 5)) (ix 7) (.int 3))] QQ := by
  refine e_load0 (pc' := 133) d_X8_init_132 rfl ?_
  refine e_bipush (pc' := 135) (x := 8) d_X8_init_133 (by decide) rfl ?_
  refine e_newarr (b' := (36, 1832)) (t := 0) (N := 8) (pc' := 137) rfl (by decide) ac_0 d_X8_init_135 (by decide) (by decide) (by decide) rfl rfl rfl ?_
  refine e_dup (pc' := 138) d_X8_init_137 rfl rfl ?_
  refine e_iconst (pc' := 139) (x := 0) d_X8_init_138 (by decide) rfl ?_
  refine e_iconst (pc' := 140) (x := 1) d_X8_init_139 (by decide) rfl ?_
  refine e_iast (j := 20) (pc' := 141) d_X8_init_140 rfl (by decide) rfl ?_
  refine e_dup (pc' := 142) d_X8_init_141 rfl rfl ?_
  refine e_iconst (pc' := 143) (x := 1) d_X8_init_142 (by decide) rfl ?_
  refine e_iconst (pc' := 144) (x := 4) d_X8_init_143 (by decide) rfl ?_
  refine e_iast (j := 20) (pc' := 145) d_X8_init_144 rfl (by decide) rfl ?_
  refine e_dup (pc' := 146) d_X8_init_145 rfl rfl ?_
  refine e_iconst (pc' := 147) (x := 2) d_X8_init_146 (by decide) rfl ?_
  refine e_bipush (pc' := 149) (x := 7) d_X8_init_147 (by decide) rfl ?_
  refine e_iast (j := 20) (pc' := 150) d_X8_init_149 rfl (by decide) rfl ?_
  refine e_dup (pc' := 151) d_X8_init_150 rfl rfl ?_
  refine e_iconst (pc' := 152) (x := 3) d_X8_init_151 (by decide) rfl ?_
  refine e_iconst (pc' := 153) (x := 2) d_X8_init_152 (by decide) rfl ?_
  refine e_iast (j := 20) (pc' := 154) d_X8_init_153 rfl (by decide) rfl ?_
  refine e_dup (pc' := 155) d_X8_init_154 rfl rfl ?_
  refine e_iconst (pc' := 156) (x := 4) d_X8_init_155 (by decide) rfl ?_
  refine e_iconst (pc' := 157) (x := 5) d_X8_init_156 (by decide) rfl ?_
  refine e_iast (j := 20) (pc' := 158) d_X8_init_157 rfl (by decide) rfl ?_
  refine e_dup (pc' := 159) d_X8_init_158 rfl rfl ?_
  refine e_iconst (pc' := 160) (x := 5) d_X8_init_159 (by decide) rfl ?_
  refine e_iconst (pc' := 161) (x := 0) d_X8_init_160 (by decide) rfl ?_
  refine e_iast (j := 20) (pc' := 162) d_X8_init_161 rfl (by decide) rfl ?_
  refine e_dup (pc' := 163) d_X8_init_162 rfl rfl ?_
  refine e_bipush (pc' := 165) (x := 6) d_X8_init_163 (by decide) rfl ?_
  refine e_iconst (pc' := 166) (x := 3) d_X8_init_165 (by decide) rfl ?_
  refine e_iast (j := 20) (pc' := 167) d_X8_init_166 rfl (by decide) rfl ?_
  refine e_dup (pc' := 168) d_X8_init_167 rfl rfl ?_
  refine e_bipush (pc' := 170) (x := 7) d_X8_init_168 (by decide) rfl ?_
  refine e_bipush (pc' := 172) (x := 6) d_X8_init_170 (by decide) rfl ?_
  refine e_iast (j := 20) (pc' := 173) d_X8_init_172 rfl (by decide) rfl ?_
  refine e_put (j := 16) (pc' := 176) fln_X8_19 fi_8_3 rfl d_X8_init_173 rfl rfl rfl rfl rfl ?_
  exact e_norm rfl k
set_option maxRecDepth 20000 in
set_option maxHeartbeats 4000000 in
theorem mch_176 {d : Nat} {X : MX} {Y : MY} {B : Heap} {QQ : Array Value → State → Outcome → State → Prop} (k : WD true (d + 1) X Y (35, 1824) mi_X8_init 220 B 16 [] [.inl (7, [.ref (B.size + 1), .ref (B.size + 3), .ref (B.size + 7), .ref (B.size + 12)]), .inl (6, [.ref (B.size + 2), .int 0, .int 0]), .inr (2, 60, fun _ => .null), .inl (2, [.ref (B.size + 4), .ref (B.size + 5), .ref (B.size + 6), .int 7, .int 0]), .inr (0, 8, fun _ => .int 0), .inr (0, 8, fun _ => .int 0), .inr (0, 64, fun _ => .int 0), .inl (5, [.ref (B.size + 8), .ref (B.size + 9), .ref (B.size + 10), .ref (B.size + 11), .int 1, .int 255]), .inr (0, 40, updV (fun _ => .int 0) (ix 0) (.int 9)), .inr (0, 40, updV (fun _ => .int 0) (ix 0) (.int 9)), .inr (0, 40, updV (fun _ => .int 0) (ix 0) (.int 1)), .inr (0, 40, fun _ => .int 0), .inl (0, [.ref (B.size + 13), .int 0, .ref (B.size + 14), .int 0, .ref (B.size + 15)]), .inr (3, 12, fun _ => .null), .inr (0, 500, fun _ => .int 0), .inr (0, 12, fun _ => .int 0), .inl (8, [.ref (B.size + 17), .ref (B.size + 18), .ref (B.size + 19), .ref (B.size + 20), .ref (B.size + 21), .null, .int 0, .null, .null, .null, .null, .null, .null, .null, .int 0, .null, .null, .int 0, .null, .null, .null, .null, .null, .int 0, .null, .null, .null, .int 0, .int 0, .int 0, .null, .null, .null, .null, .null, .int 0, .null, .null, .null, .null, .null, .int 0, .null, .null, .null, .null, .null, .null, .null]), .inr (0, 8, updV (updV (updV (updV (updV (updV (updV (updV (fun _ => .int 0) (ix 0) (.int 1)) (ix 1) (.int 0)) (ix 2) (.int 1)) (ix 3) (.int 1)) (ix 4) (.int (-1))) (ix 5) (.int 0)) (ix 6) (.int (-1))) (ix 7) (.int (-1))), .inr (0, 8, updV (updV (updV (updV (updV (updV (updV (updV (fun _ => .int 0) (ix 0) (.int 0)) (ix 1) (.int 1)) (ix 2) (.int 1)) (ix 3) (.int (-1))) (ix 4) (.int 0)) (ix 5) (.int (-1))) (ix 6) (.int (-1))) (ix 7) (.int 1)), .inr (0, 8, updV (updV (updV (updV (updV (updV (updV (updV (fun _ => .int 0) (ix 0) (.int 0)) (ix 1) (.int 2)) (ix 2) (.int 1)) (ix 3) (.int 7)) (ix 4) (.int 4)) (ix 5) (.int 6)) (ix 6) (.int 5)) (ix 7) (.int 3)), .inr (0, 8, updV (updV (updV (updV (updV (updV (updV (updV (fun _ => .int 0) (ix 0) (.int 1)) (ix 1) (.int 4)) (ix 2) (.int 7)) (ix 3) (.int 2)) (ix 4) (.int 5)) (ix 5) (.int 0)) (ix 6) (.int 3)) (ix 7) (.int 6)), .inr (0, 8, updV (updV (updV (updV (updV (updV (updV (updV (fun _ => .int 0) (ix 0) (.int 4)) (ix 1) (.int 1)) (ix 2) (.int 7)) (ix 3) (.int 6)) (ix 4) (.int 0)) (ix 5) (.int 5)) (ix 6) (.int 3)) (ix 7) (.int 2))] QQ) : WD true (d + 1) X Y (36, 1832) mi_X8_init 176 B 16 [] [.inl (7, [.ref (B.size + 1), .ref (B.size + 3), .ref (B.size + 7), .ref (B.size + 12)]), .inl (6, [.ref (B.size + 2), .int 0, .int 0]), .inr (2, 60, fun _ => .null), .inl (2, [.ref (B.size + 4), .ref (B.size + 5), .ref (B.size + 6), .int 7, .int 0]), .inr (0, 8, fun _ => .int 0), .inr (0, 8, fun _ => .int 0), .inr (0, 64, fun _ => .int 0), .inl (5, [.ref (B.size + 8), .ref (B.size + 9), .ref (B.size + 10), .ref (B.size + 11), .int 1, .int 255]), .inr (0, 40, updV (fun _ => .int 0) (ix 0) (.int 9)), .inr (0, 40, updV (fun _ => .int 0) (ix 0) (.int 9)), .inr (0, 40, updV (fun _ => .int 0) (ix 0) (.int 1)), .inr (0, 40, fun _ => .int 0), .inl (0, [.ref (B.size + 13), .int 0, .ref (B.size + 14), .int 0, .ref (B.size + 15)]), .inr (3, 12, fun _ => .null), .inr (0, 500, fun _ => .int 0), .inr (0, 12, fun _ => .int 0), .inl (8, [.ref (B.size + 17), .ref (B.size + 18), .ref (B.size + 19), .ref (B.size + 20), .null, .null, .int 0, .null, .null, .null, .null, .null, .null, .null, .int 0, .null, .null, .int 0, .null, .null, .null, .null, .null, .int 0, .null, .null, .null, .int 0, .int 0, .int 0, .null, .null, .null, .null, .null, .int 0, .null, .null, .null, .null, .null, .int 0, .null, .null, .null, .null, .null, .null, .null]), .inr (0, 8, updV (updV (updV (updV (updV (updV (updV (updV (fun _ => .int 0) (ix 0) (.int 1)) (ix 1) (.int 0)) (ix 2) (.int 1)) (ix 3) (.int 1)) (ix 4) (.int (-1))) (ix 5) (.int 0)) (ix 6) (.int (-1))) (ix 7) (.int (-1))), .inr (0, 8, updV (updV (updV (updV (updV (updV (updV (updV (fun _ => .int 0) (ix 0) (.int 0)) (ix 1) (.int 1)) (ix 2) (.int 1)) (ix 3) (.int (-1))) (ix 4) (.int 0)) (ix 5) (.int (-1))) (ix 6) (.int (-1))) (ix 7) (.int 1)), .inr (0, 8, updV (updV (updV (updV (updV (updV (updV (updV (fun _ => .int 0) (ix 0) (.int 0)) (ix 1) (.int 2)) (ix 2) (.int 1)) (ix 3) (.int 7)) (ix 4) (.int 4)) (ix 5) (.int 6)) (ix 6) (.int 5)) (ix 7) (.int 3)), .inr (0, 8, updV (updV (updV (updV (updV (updV (updV (updV (fun _ => .int 0) (ix 0) (.int 1)) (ix 1) (.int 4)) (ix 2) (.int 7)) (ix 3) (.int 2)) (ix 4) (.int 5)) (ix 5) (.int 0)) (ix 6) (.int 3)) (ix 7) (.int 6))] QQ := by
  refine e_load0 (pc' := 177) d_X8_init_176 rfl ?_
  refine e_bipush (pc' := 179) (x := 8) d_X8_init_177 (by decide) rfl ?_
  refine e_newarr (b' := (35, 1824)) (t := 0) (N := 8) (pc' := 181) rfl (by decide) ac_0 d_X8_init_179 (by decide) (by decide) (by decide) rfl rfl rfl ?_
  refine e_dup (pc' := 182) d_X8_init_181 rfl rfl ?_
  refine e_iconst (pc' := 183) (x := 0) d_X8_init_182 (by decide) rfl ?_
  refine e_iconst (pc' := 184) (x := 4) d_X8_init_183 (by decide) rfl ?_
  refine e_iast (j := 21) (pc' := 185) d_X8_init_184 rfl (by decide) rfl ?_
  refine e_dup (pc' := 186) d_X8_init_185 rfl rfl ?_
  refine e_iconst (pc' := 187) (x := 1) d_X8_init_186 (by decide) rfl ?_
  refine e_iconst (pc' := 188) (x := 1) d_X8_init_187 (by decide) rfl ?_
  refine e_iast (j := 21) (pc' := 189) d_X8_init_188 rfl (by decide) rfl ?_
  refine e_dup (pc' := 190) d_X8_init_189 rfl rfl ?_
  refine e_iconst (pc' := 191) (x := 2) d_X8_init_190 (by decide) rfl ?_
  refine e_bipush (pc' := 193) (x := 7) d_X8_init_191 (by decide) rfl ?_
  refine e_iast (j := 21) (pc' := 194) d_X8_init_193 rfl (by decide) rfl ?_
  refine e_dup (pc' := 195) d_X8_init_194 rfl rfl ?_
  refine e_iconst (pc' := 196) (x := 3) d_X8_init_195 (by decide) rfl ?_
  refine e_bipush (pc' := 198) (x := 6) d_X8_init_196 (by decide) rfl ?_
  refine e_iast (j := 21) (pc' := 199) d_X8_init_198 rfl (by decide) rfl ?_
  refine e_dup (pc' := 200) d_X8_init_199 rfl rfl ?_
  refine e_iconst (pc' := 201) (x := 4) d_X8_init_200 (by decide) rfl ?_
  refine e_iconst (pc' := 202) (x := 0) d_X8_init_201 (by decide) rfl ?_
  refine e_iast (j := 21) (pc' := 203) d_X8_init_202 rfl (by decide) rfl ?_
  refine e_dup (pc' := 204) d_X8_init_203 rfl rfl ?_
  refine e_iconst (pc' := 205) (x := 5) d_X8_init_204 (by decide) rfl ?_
  refine e_iconst (pc' := 206) (x := 5) d_X8_init_205 (by decide) rfl ?_
  refine e_iast (j := 21) (pc' := 207) d_X8_init_206 rfl (by decide) rfl ?_
  refine e_dup (pc' := 208) d_X8_init_207 rfl rfl ?_
  refine e_bipush (pc' := 210) (x := 6) d_X8_init_208 (by decide) rfl ?_
  refine e_iconst (pc' := 211) (x := 3) d_X8_init_210 (by decide) rfl ?_
  refine e_iast (j := 21) (pc' := 212) d_X8_init_211 rfl (by decide) rfl ?_
  refine e_dup (pc' := 213) d_X8_init_212 rfl rfl ?_
  refine e_bipush (pc' := 215) (x := 7) d_X8_init_213 (by decide) rfl ?_
  refine e_iconst (pc' := 216) (x := 2) d_X8_init_215 (by decide) rfl ?_
  refine e_iast (j := 21) (pc' := 217) d_X8_init_216 rfl (by decide) rfl ?_
  refine e_put (j := 16) (pc' := 220) fln_X8_22 fi_8_4 rfl d_X8_init_217 rfl rfl rfl rfl rfl ?_
  exact e_norm rfl k
set_option maxRecDepth 20000 in
set_option maxHeartbeats 4000000 in
theorem mch_220 {d : Nat} {X : MX} {Y : MY} {B : Heap} {QQ : Array Value → State → Outcome → State → Prop} (k : WD true (d + 1) X Y (34, 1816) mi_X8_init 264 B 16 [] [.inl (7, [.ref (B.size + 1), .ref (B.size + 3), .ref (B.size + 7), .ref (B.size + 12)]), .inl (6, [.ref (B.size + 2), .int 0, .int 0]), .inr (2, 60, fun _ => .null), .inl (2, [.ref (B.size + 4), .ref (B.size + 5), .ref (B.size + 6), .int 7, .int 0]), .inr (0, 8, fun _ => .int 0), .inr (0, 8, fun _ => .int 0), .inr (0, 64, fun _ => .int 0), .inl (5, [.ref (B.size + 8), .ref (B.size + 9), .ref (B.size + 10), .ref (B.size + 11), .int 1, .int 255]), .inr (0, 40, updV (fun _ => .int 0) (ix 0) (.int 9)), .inr (0, 40, updV (fun _ => .int 0) (ix 0) (.int 9)), .inr (0, 40, updV (fun _ => .int 0) (ix 0) (.int 1)), .inr (0, 40, fun _ => .int 0), .inl (0, [.ref (B.size + 13), .int 0, .ref (B.size + 14), .int 0, .ref (B.size + 15)]), .inr (3, 12, fun _ => .null), .inr (0, 500, fun _ => .int 0), .inr (0, 12, fun _ => .int 0), .inl (8, [.ref (B.size + 17), .ref (B.size + 18), .ref (B.size + 19), .ref (B.size + 20), .ref (B.size + 21), .ref (B.size + 22), .int 0, .null, .null, .null, .null, .null, .null, .null, .int 0, .null, .null, .int 0, .null, .null, .null, .null, .null, .int 0, .null, .null, .null, .int 0, .int 0, .int 0, .null, .null, .null, .null, .null, .int 0, .null, .null, .null, .null, .null, .int 0, .null, .null, .null, .null, .null, .null, .null]), .inr (0, 8, updV (updV (updV (updV (updV (updV (updV (updV (fun _ => .int 0) (ix 0) (.int 1)) (ix 1) (.int 0)) (ix 2) (.int 1)) (ix 3) (.int 1)) (ix 4) (.int (-1))) (ix 5) (.int 0)) (ix 6) (.int (-1))) (ix 7) (.int (-1))), .inr (0, 8, updV (updV (updV (updV (updV (updV (updV (updV (fun _ => .int 0) (ix 0) (.int 0)) (ix 1) (.int 1)) (ix 2) (.int 1)) (ix 3) (.int (-1))) (ix 4) (.int 0)) (ix 5) (.int (-1))) (ix 6) (.int (-1))) (ix 7) (.int 1)), .inr (0, 8, updV (updV (updV (updV (updV (updV (updV (updV (fun _ => .int 0) (ix 0) (.int 0)) (ix 1) (.int 2)) (ix 2) (.int 1)) (ix 3) (.int 7)) (ix 4) (.int 4)) (ix 5) (.int 6)) (ix 6) (.int 5)) (ix 7) (.int 3)), .inr (0, 8, updV (updV (updV (updV (updV (updV (updV (updV (fun _ => .int 0) (ix 0) (.int 1)) (ix 1) (.int 4)) (ix 2) (.int 7)) (ix 3) (.int 2)) (ix 4) (.int 5)) (ix 5) (.int 0)) (ix 6) (.int 3)) (ix 7) (.int 6)), .inr (0, 8, updV (updV (updV (updV (updV (updV (updV (updV (fun _ => .int 0) (ix 0) (.int 4)) (ix 1) (.int 1)) (ix 2) (.int 7)) (ix 3) (.int 6)) (ix 4) (.int 0)) (ix 5) (.int 5)) (ix 6) (.int 3)) (ix 7) (.int 2)), .inr (0, 8, updV (updV (updV (updV (updV (updV (updV (updV (fun _ => .int 0) (ix 0) (.int 1)) (ix 1) (.int 0)) (ix 2) (.int 2)) (ix 3) (.int 7)) (ix 4) (.int 5)) (ix 5) (.int 4)) (ix 6) (.int 6)) (ix 7) (.int 3))] QQ) : WD true (d + 1) X Y (35, 1824) mi_X8_init 220 B 16 [] [.inl (7, [.ref (B.size + 1), .ref (B.size + 3), .ref (B.size + 7), .ref (B.size + 12)]), .inl (6, [.ref (B.size + 2), .int 0, .int 0]), .inr (2, 60, fun _ => .null), .inl (2, [.ref (B.size + 4), .ref (B.size + 5), .ref (B.size + 6), .int 7, .int 0]), .inr (0, 8, fun _ => .int 0), .inr (0, 8, fun _ => .int 0), .inr (0, 64, fun _ => .int 0), .inl (5, [.ref (B.size + 8), .ref (B.size + 9), .ref (B.size + 10), .ref (B.size + 11), .int 1, .int 255]), .inr (0, 40, updV (fun _ => .int 0) (ix 0) (.int 9)), .inr (0, 40, updV (fun _ => .int 0) (ix 0) (.int 9)), .inr (0, 40, updV (fun _ => .int 0) (ix 0) (.int 1)), .inr (0, 40, fun _ => .int 0), .inl (0, [.ref (B.size + 13), .int 0, .ref (B.size + 14), .int 0, .ref (B.size + 15)]), .inr (3, 12, fun _ => .null), .inr (0, 500, fun _ => .int 0), .inr (0, 12, fun _ => .int 0), .inl (8, [.ref (B.size + 17), .ref (B.size + 18), .ref (B.size + 19), .ref (B.size + 20), .ref (B.size + 21), .null, .int 0, .null, .null, .null, .null, .null, .null, .null, .int 0, .null, .null, .int 0, .null, .null, .null, .null, .null, .int 0, .null, .null, .null, .int 0, .int 0, .int 0, .null, .null, .null, .null, .null, .int 0, .null, .null, .null, .null, .null, .int 0, .null, .null, .null, .null, .null, .null, .null]), .inr (0, 8, updV (updV (updV (updV (updV (updV (updV (updV (fun _ => .int 0) (ix 0) (.int 1)) (ix 1) (.int 0)) (ix 2) (.int 1)) (ix 3) (.int 1)) (ix 4) (.int (-1))) (ix 5) (.int 0)) (ix 6) (.int (-1))) (ix 7) (.int (-1))), .inr (0, 8, updV (updV (updV (updV (updV (updV (updV (updV (fun _ => .int 0) (ix 0) (.int 0)) (ix 1) (.int 1)) (ix 2) (.int 1)) (ix 3) (.int (-1))) (ix 4) (.int 0)) (ix 5) (.int (-1))) (ix 6) (.int (-1))) (ix 7) (.int 1)), .inr (0, 8, updV (updV (updV (updV (updV (updV (updV (updV (fun _ => .int 0) (ix 0) (.int 0)) (ix 1) (.int 2)) (ix 2) (.int 1)) (ix 3) (.int 7)) (ix 4) (.int 4)) (ix 5) (.int 6)) (ix 6) (.int 5)) (ix 7) (.int 3)), .inr (0, 8, updV (updV (updV (updV (updV (updV (updV (updV (fun _ => .int 0) (ix 0) (.int 1)) (ix 1) (.int 4)) (ix 2) (.int 7)) (ix 3) (.int 2)) (ix 4) (.int 5)) (ix 5) (.int 0)) (ix 6) (.int 3)) (ix 7) (.int 6)), .inr (0, 8, updV (updV (updV (updV (updV (updV (updV (updV (fun _ => .int 0) (ix 0) (.int 4)) (ix 1) (.int 1)) (ix 2) (.int 7)) (ix 3) (.int 6)) (ix 4) (.int 0)) (ix 5) (.int 5)) (ix 6) (.int 3)) (ix 7) (.int 2))] QQ := by
  refine e_load0 (pc' := 221) d_X8_init_220 rfl ?_
  refine e_bipush (pc' := 223) (x := 8) d_X8_init_221 (by decide) rfl ?_
  refine e_newarr (b' := (34, 1816)) (t := 0) (N := 8) (pc' := 225) rfl (by decide) ac_0 d_X8_init_223 (by decide) (by decide) (by decide) rfl rfl rfl ?_
  refine e_dup (pc' := 226) d_X8_init_225 rfl rfl ?_
  refine e_iconst (pc' := 227) (x := 0) d_X8_init_226 (by decide) rfl ?_
  refine e_iconst (pc' := 228) (x := 1) d_X8_init_227 (by decide) rfl ?_
  refine e_iast (j := 22) (pc' := 229) d_X8_init_228 rfl (by decide) rfl ?_
  refine e_dup (pc' := 230) d_X8_init_229 rfl rfl ?_
  refine e_iconst (pc' := 231) (x := 1) d_X8_init_230 (by decide) rfl ?_
  refine e_iconst (pc' := 232) (x := 0) d_X8_init_231 (by decide) rfl ?_
  refine e_iast (j := 22) (pc' := 233) d_X8_init_232 rfl (by decide) rfl ?_
  refine e_dup (pc' := 234) d_X8_init_233 rfl rfl ?_
  refine e_iconst (pc' := 235) (x := 2) d_X8_init_234 (by decide) rfl ?_
  refine e_iconst (pc' := 236) (x := 2) d_X8_init_235 (by decide) rfl ?_
  refine e_iast (j := 22) (pc' := 237) d_X8_init_236 rfl (by decide) rfl ?_
  refine e_dup (pc' := 238) d_X8_init_237 rfl rfl ?_
  refine e_iconst (pc' := 239) (x := 3) d_X8_init_238 (by decide) rfl ?_
  refine e_bipush (pc' := 241) (x := 7) d_X8_init_239 (by decide) rfl ?_
  refine e_iast (j := 22) (pc' := 242) d_X8_init_241 rfl (by decide) rfl ?_
  refine e_dup (pc' := 243) d_X8_init_242 rfl rfl ?_
  refine e_iconst (pc' := 244) (x := 4) d_X8_init_243 (by decide) rfl ?_
  refine e_iconst (pc' := 245) (x := 5) d_X8_init_244 (by decide) rfl ?_
  refine e_iast (j := 22) (pc' := 246) d_X8_init_245 rfl (by decide) rfl ?_
  refine e_dup (pc' := 247) d_X8_init_246 rfl rfl ?_
  refine e_iconst (pc' := 248) (x := 5) d_X8_init_247 (by decide) rfl ?_
  refine e_iconst (pc' := 249) (x := 4) d_X8_init_248 (by decide) rfl ?_
  refine e_iast (j := 22) (pc' := 250) d_X8_init_249 rfl (by decide) rfl ?_
  refine e_dup (pc' := 251) d_X8_init_250 rfl rfl ?_
  refine e_bipush (pc' := 253) (x := 6) d_X8_init_251 (by decide) rfl ?_
  refine e_bipush (pc' := 255) (x := 6) d_X8_init_253 (by decide) rfl ?_
  refine e_iast (j := 22) (pc' := 256) d_X8_init_255 rfl (by decide) rfl ?_
  refine e_dup (pc' := 257) d_X8_init_256 rfl rfl ?_
  refine e_bipush (pc' := 259) (x := 7) d_X8_init_257 (by decide) rfl ?_
  refine e_iconst (pc' := 260) (x := 3) d_X8_init_259 (by decide) rfl ?_
  refine e_iast (j := 22) (pc' := 261) d_X8_init_260 rfl (by decide) rfl ?_
  refine e_put (j := 16) (pc' := 264) fln_X8_25 fi_8_5 rfl d_X8_init_261 rfl rfl rfl rfl rfl ?_
  exact e_norm rfl k
set_option maxRecDepth 20000 in
set_option maxHeartbeats 4000000 in
theorem mch_264 {d : Nat} {X : MX} {Y : MY} {B : Heap} {QQ : Array Value → State → Outcome → State → Prop} (k : WD true (d + 1) X Y (29, 1096) mi_X8_init 305 B 16 [] [.inl (7, [.ref (B.size + 1), .ref (B.size + 3), .ref (B.size + 7), .ref (B.size + 12)]), .inl (6, [.ref (B.size + 2), .int 0, .int 0]), .inr (2, 60, fun _ => .null), .inl (2, [.ref (B.size + 4), .ref (B.size + 5), .ref (B.size + 6), .int 7, .int 0]), .inr (0, 8, fun _ => .int 0), .inr (0, 8, fun _ => .int 0), .inr (0, 64, fun _ => .int 0), .inl (5, [.ref (B.size + 8), .ref (B.size + 9), .ref (B.size + 10), .ref (B.size + 11), .int 1, .int 255]), .inr (0, 40, updV (fun _ => .int 0) (ix 0) (.int 9)), .inr (0, 40, updV (fun _ => .int 0) (ix 0) (.int 9)), .inr (0, 40, updV (fun _ => .int 0) (ix 0) (.int 1)), .inr (0, 40, fun _ => .int 0), .inl (0, [.ref (B.size + 13), .int 0, .ref (B.size + 14), .int 0, .ref (B.size + 15)]), .inr (3, 12, fun _ => .null), .inr (0, 500, fun _ => .int 0), .inr (0, 12, fun _ => .int 0), .inl (8, [.ref (B.size + 17), .ref (B.size + 18), .ref (B.size + 19), .ref (B.size + 20), .ref (B.size + 21), .ref (B.size + 22), .int 0, .ref (B.size + 23), .ref (B.size + 24), .ref (B.size + 25), .ref (B.size + 26), .ref (B.size + 27), .null, .null, .int 0, .null, .null, .int 0, .null, .null, .null, .null, .null, .int 0, .null, .null, .null, .int 0, .int 0, .int 0, .null, .null, .null, .null, .null, .int 0, .null, .null, .null, .null, .null, .int 0, .null, .null, .null, .null, .null, .null, .null]), .inr (0, 8, updV (updV (updV (updV (updV (updV (updV (updV (fun _ => .int 0) (ix 0) (.int 1)) (ix 1) (.int 0)) (ix 2) (.int 1)) (ix 3) (.int 1)) (ix 4) (.int (-1))) (ix 5) (.int 0)) (ix 6) (.int (-1))) (ix 7) (.int (-1))), .inr (0, 8, updV (updV (updV (updV (updV (updV (updV (updV (fun _ => .int 0) (ix 0) (.int 0)) (ix 1) (.int 1)) (ix 2) (.int 1)) (ix 3) (.int (-1))) (ix 4) (.int 0)) (ix 5) (.int (-1))) (ix 6) (.int (-1))) (ix 7) (.int 1)), .inr (0, 8, updV (updV (updV (updV (updV (updV (updV (updV (fun _ => .int 0) (ix 0) (.int 0)) (ix 1) (.int 2)) (ix 2) (.int 1)) (ix 3) (.int 7)) (ix 4) (.int 4)) (ix 5) (.int 6)) (ix 6) (.int 5)) (ix 7) (.int 3)), .inr (0, 8, updV (updV (updV (updV (updV (updV (updV (updV (fun _ => .int 0) (ix 0) (.int 1)) (ix 1) (.int 4)) (ix 2) (.int 7)) (ix 3) (.int 2)) (ix 4) (.int 5)) (ix 5) (.int 0)) (ix 6) (.int 3)) (ix 7) (.int 6)), .inr (0, 8, updV (updV (updV (updV (updV (updV (updV (updV (fun _ => .int 0) (ix 0) (.int 4)) (ix 1) (.int 1)) (ix 2) (.int 7)) (ix 3) (.int 6)) (ix 4) (.int 0)) (ix 5) (.int 5)) (ix 6) (.int 3)) (ix 7) (.int 2)), .inr (0, 8, updV (updV (updV (updV (updV (updV (updV (updV (fun _ => .int 0) (ix 0) (.int 1)) (ix 1) (.int 0)) (ix 2) (.int 2)) (ix 3) (.int 7)) (ix 4) (.int 5)) (ix 5) (.int 4)) (ix 6) (.int 6)) (ix 7) (.int 3)), .inr (1, 60, fun _ => .int 0), .inr (0, 480, fun _ => .int 0), .inr (0, 60, fun _ => .int 0), .inr (0, 60, fun _ => .int 0), .inr (1, 60, fun _ => .int 0)] QQ) : WD true (d + 1) X Y (34, 1816) mi_X8_init 264 B 16 [] [.inl (7, [.ref (B.size + 1), .ref (B.size + 3), .ref (B.size + 7), .ref (B.size + 12)]), .inl (6, [.ref (B.size + 2), .int 0, .int 0]), .inr (2, 60, fun _ => .null), .inl (2, [.ref (B.size + 4), .ref (B.size + 5), .ref (B.size + 6), .int 7, .int 0]), .inr (0, 8, fun _ => .int 0), .inr (0, 8, fun _ => .int 0), .inr (0, 64, fun _ => .int 0), .inl (5, [.ref (B.size + 8), .ref (B.size + 9), .ref (B.size + 10), .ref (B.size + 11), .int 1, .int 255]), .inr (0, 40, updV (fun _ => .int 0) (ix 0) (.int 9)), .inr (0, 40, updV (fun _ => .int 0) (ix 0) (.int 9)), .inr (0, 40, updV (fun _ => .int 0) (ix 0) (.int 1)), .inr (0, 40, fun _ => .int 0), .inl (0, [.ref (B.size + 13), .int 0, .ref (B.size + 14), .int 0, .ref (B.size + 15)]), .inr (3, 12, fun _ => .null), .inr (0, 500, fun _ => .int 0), .inr (0, 12, fun _ => .int 0), .inl (8, [.ref (B.size + 17), .ref (B.size + 18), .ref (B.size + 19), .ref (B.size + 20), .ref (B.size + 21), .ref (B.size + 22), .int 0, .null, .null, .null, .null, .null, .null, .null, .int 0, .null, .null, .int 0, .null, .null, .null, .null, .null, .int 0, .null, .null, .null, .int 0, .int 0, .int 0, .null, .null, .null, .null, .null, .int 0, .null, .null, .null, .null, .null, .int 0, .null, .null, .null, .null, .null, .null, .null]), .inr (0, 8, updV (updV (updV (updV (updV (updV (updV (updV (fun _ => .int 0) (ix 0) (.int 1)) (ix 1) (.int 0)) (ix 2) (.int 1)) (ix 3) (.int 1)) (ix 4) (.int (-1))) (ix 5) (.int 0)) (ix 6) (.int (-1))) (ix 7) (.int (-1))), .inr (0, 8, updV (updV (updV (updV (updV (updV (updV (updV (fun _ => .int 0) (ix 0) (.int 0)) (ix 1) (.int 1)) (ix 2) (.int 1)) (ix 3) (.int (-1))) (ix 4) (.int 0)) (ix 5) (.int (-1))) (ix 6) (.int (-1))) (ix 7) (.int 1)), .inr (0, 8, updV (updV (updV (updV (updV (updV (updV (updV (fun _ => .int 0) (ix 0) (.int 0)) (ix 1) (.int 2)) (ix 2) (.int 1)) (ix 3) (.int 7)) (ix 4) (.int 4)) (ix 5) (.int 6)) (ix 6) (.int 5)) (ix 7) (.int 3)), .inr (0, 8, updV (updV (updV (updV (updV (updV (updV (updV (fun _ => .int 0) (ix 0) (.int 1)) (ix 1) (.int 4)) (ix 2) (.int 7)) (ix 3) (.int 2)) (ix 4) (.int 5)) (ix 5) (.int 0)) (ix 6) (.int 3)) (ix 7) (.int 6)), .inr (0, 8, updV (updV (updV (updV (updV (updV (updV (updV (fun _ => .int 0) (ix 0) (.int 4)) (ix 1) (.int 1)) (ix 2) (.int 7)) (ix 3) (.int 6)) (ix 4) (.int 0)) (ix 5) (.int 5)) (ix 6) (.int 3)) (ix 7) (.int 2)), .inr (0, 8, updV (updV (updV (updV (updV (updV (updV (updV (fun _ => .int 0) (ix 0) (.int 1)) (ix 1) (.int 0)) (ix 2) (.int 2)) (ix 3) (.int 7)) (ix 4) (.int 5)) (ix 5) (.int 4)) (ix 6) (.int 6)) (ix 7) (.int 3))] QQ := by
  refine e_load0 (pc' := 265) d_X8_init_264 rfl ?_
  refine e_bipush (pc' := 267) (x := 60) d_X8_init_265 (by decide) rfl ?_
  refine e_newarr (b' := (33, 1756)) (t := 1) (N := 60) (pc' := 269) rfl (by decide) ac_1 d_X8_init_267 (by decide) (by decide) (by decide) rfl rfl rfl ?_
  refine e_put (j := 16) (pc' := 272) fln_X8_28 fi_8_7 rfl d_X8_init_269 rfl rfl rfl rfl rfl ?_
  refine e_load0 (pc' := 273) d_X8_init_272 rfl ?_
  refine e_sipush (pc' := 276) (x := 480) d_X8_init_273 (by decide) rfl ?_
  refine e_newarr (b' := (32, 1276)) (t := 0) (N := 480) (pc' := 278) rfl (by decide) ac_0 d_X8_init_276 (by decide) (by decide) (by decide) rfl rfl rfl ?_
  refine e_put (j := 16) (pc' := 281) fln_X8_32 fi_8_8 rfl d_X8_init_278 rfl rfl rfl rfl rfl ?_
  refine e_load0 (pc' := 282) d_X8_init_281 rfl ?_
  refine e_bipush (pc' := 284) (x := 60) d_X8_init_282 (by decide) rfl ?_
  refine e_newarr (b' := (31, 1216)) (t := 0) (N := 60) (pc' := 286) rfl (by decide) ac_0 d_X8_init_284 (by decide) (by decide) (by decide) rfl rfl rfl ?_
  refine e_put (j := 16) (pc' := 289) fln_X8_35 fi_8_9 rfl d_X8_init_286 rfl rfl rfl rfl rfl ?_
  refine e_load0 (pc' := 290) d_X8_init_289 rfl ?_
  refine e_bipush (pc' := 292) (x := 60) d_X8_init_290 (by decide) rfl ?_
  refine e_newarr (b' := (30, 1156)) (t := 0) (N := 60) (pc' := 294) rfl (by decide) ac_0 d_X8_init_292 (by decide) (by decide) (by decide) rfl rfl rfl ?_
  refine e_put (j := 16) (pc' := 297) fln_X8_38 fi_8_10 rfl d_X8_init_294 rfl rfl rfl rfl rfl ?_
  refine e_load0 (pc' := 298) d_X8_init_297 rfl ?_
  refine e_bipush (pc' := 300) (x := 60) d_X8_init_298 (by decide) rfl ?_
  refine e_newarr (b' := (29, 1096)) (t := 1) (N := 60) (pc' := 302) rfl (by decide) ac_1 d_X8_init_300 (by decide) (by decide) (by decide) rfl rfl rfl ?_
  refine e_put (j := 16) (pc' := 305) fln_X8_41 fi_8_11 rfl d_X8_init_302 rfl rfl rfl rfl rfl ?_
  exact e_norm rfl k
set_option maxRecDepth 20000 in
set_option maxHeartbeats 4000000 in
theorem mch_305 {d : Nat} {X : MX} {Y : MY} {B : Heap} {QQ : Array Value → State → Outcome → State → Prop} (k : WD true (d + 1) X Y (24, 956) mi_X8_init 345 B 16 [] [.inl (7, [.ref (B.size + 1), .ref (B.size + 3), .ref (B.size + 7), .ref (B.size + 12)]), .inl (6, [.ref (B.size + 2), .int 0, .int 0]), .inr (2, 60, fun _ => .null), .inl (2, [.ref (B.size + 4), .ref (B.size + 5), .ref (B.size + 6), .int 7, .int 0]), .inr (0, 8, fun _ => .int 0), .inr (0, 8, fun _ => .int 0), .inr (0, 64, fun _ => .int 0), .inl (5, [.ref (B.size + 8), .ref (B.size + 9), .ref (B.size + 10), .ref (B.size + 11), .int 1, .int 255]), .inr (0, 40, updV (fun _ => .int 0) (ix 0) (.int 9)), .inr (0, 40, updV (fun _ => .int 0) (ix 0) (.int 9)), .inr (0, 40, updV (fun _ => .int 0) (ix 0) (.int 1)), .inr (0, 40, fun _ => .int 0), .inl (0, [.ref (B.size + 13), .int 0, .ref (B.size + 14), .int 0, .ref (B.size + 15)]), .inr (3, 12, fun _ => .null), .inr (0, 500, fun _ => .int 0), .inr (0, 12, fun _ => .int 0), .inl (8, [.ref (B.size + 17), .ref (B.size + 18), .ref (B.size + 19), .ref (B.size + 20), .ref (B.size + 21), .ref (B.size + 22), .int 0, .ref (B.size + 23), .ref (B.size + 24), .ref (B.size + 25), .ref (B.size + 26), .ref (B.size + 27), .ref (B.size + 28), .ref (B.size + 29), .int 0, .ref (B.size + 30), .ref (B.size + 31), .int 0, .ref (B.size + 32), .null, .null, .null, .null, .int 0, .null, .null, .null, .int 0, .int 0, .int 0, .null, .null, .null, .null, .null, .int 0, .null, .null, .null, .null, .null, .int 0, .null, .null, .null, .null, .null, .null, .null]), .inr (0, 8, updV (updV (updV (updV (updV (updV (updV (updV (fun _ => .int 0) (ix 0) (.int 1)) (ix 1) (.int 0)) (ix 2) (.int 1)) (ix 3) (.int 1)) (ix 4) (.int (-1))) (ix 5) (.int 0)) (ix 6) (.int (-1))) (ix 7) (.int (-1))), .inr (0, 8, updV (updV (updV (updV (updV (updV (updV (updV (fun _ => .int 0) (ix 0) (.int 0)) (ix 1) (.int 1)) (ix 2) (.int 1)) (ix 3) (.int (-1))) (ix 4) (.int 0)) (ix 5) (.int (-1))) (ix 6) (.int (-1))) (ix 7) (.int 1)), .inr (0, 8, updV (updV (updV (updV (updV (updV (updV (updV (fun _ => .int 0) (ix 0) (.int 0)) (ix 1) (.int 2)) (ix 2) (.int 1)) (ix 3) (.int 7)) (ix 4) (.int 4)) (ix 5) (.int 6)) (ix 6) (.int 5)) (ix 7) (.int 3)), .inr (0, 8, updV (updV (updV (updV (updV (updV (updV (updV (fun _ => .int 0) (ix 0) (.int 1)) (ix 1) (.int 4)) (ix 2) (.int 7)) (ix 3) (.int 2)) (ix 4) (.int 5)) (ix 5) (.int 0)) (ix 6) (.int 3)) (ix 7) (.int 6)), .inr (0, 8, updV (updV (updV (updV (updV (updV (updV (updV (fun _ => .int 0) (ix 0) (.int 4)) (ix 1) (.int 1)) (ix 2) (.int 7)) (ix 3) (.int 6)) (ix 4) (.int 0)) (ix 5) (.int 5)) (ix 6) (.int 3)) (ix 7) (.int 2)), .inr (0, 8, updV (updV (updV (updV (updV (updV (updV (updV (fun _ => .int 0) (ix 0) (.int 1)) (ix 1) (.int 0)) (ix 2) (.int 2)) (ix 3) (.int 7)) (ix 4) (.int 5)) (ix 5) (.int 4)) (ix 6) (.int 6)) (ix 7) (.int 3)), .inr (1, 60, fun _ => .int 0), .inr (0, 480, fun _ => .int 0), .inr (0, 60, fun _ => .int 0), .inr (0, 60, fun _ => .int 0), .inr (1, 60, fun _ => .int 0), .inr (0, 60, fun _ => .int 0), .inr (0, 8, fun _ => .int 0), .inr (0, 32, fun _ => .int 0), .inr (0, 32, fun _ => .int 0), .inr (0, 8, fun _ => .int 0)] QQ) : WD true (d + 1) X Y (29, 1096) mi_X8_init 305 B 16 [] [.inl (7, [.ref (B.size + 1), .ref (B.size + 3), .ref (B.size + 7), .ref (B.size + 12)]), .inl (6, [.ref (B.size + 2), .int 0, .int 0]), .inr (2, 60, fun _ => .null), .inl (2, [.ref (B.size + 4), .ref (B.size + 5), .ref (B.size + 6), .int 7, .int 0]), .inr (0, 8, fun _ => .int 0), .inr (0, 8, fun _ => .int 0), .inr (0, 64, fun _ => .int 0), .inl (5, [.ref (B.size + 8), .ref (B.size + 9), .ref (B.size + 10), .ref (B.size + 11), .int 1, .int 255]), .inr (0, 40, updV (fun _ => .int 0) (ix 0) (.int 9)), .inr (0, 40, updV (fun _ => .int 0) (ix 0) (.int 9)), .inr (0, 40, updV (fun _ => .int 0) (ix 0) (.int 1)), .inr (0, 40, fun _ => .int 0), .inl (0, [.ref (B.size + 13), .int 0, .ref (B.size + 14), .int 0, .ref (B.size + 15)]), .inr (3, 12, fun _ => .null), .inr (0, 500, fun _ => .int 0), .inr (0, 12, fun _ => .int 0), .inl (8, [.ref (B.size + 17), .ref (B.size + 18), .ref (B.size + 19), .ref (B.size + 20), .ref (B.size + 21), .ref (B.size + 22), .int 0, .ref (B.size + 23), .ref (B.size + 24), .ref (B.size + 25), .ref (B.size + 26), .ref (B.size + 27), .null, .null, .int 0, .null, .null, .int 0, .null, .null, .null, .null, .null, .int 0, .null, .null, .null, .int 0, .int 0, .int 0, .null, .null, .null, .null, .null, .int 0, .null, .null, .null, .null, .null, .int 0, .null, .null, .null, .null, .null, .null, .null]), .inr (0, 8, updV (updV (updV (updV (updV (updV (updV (updV (fun _ => .int 0) (ix 0) (.int 1)) (ix 1) (.int 0)) (ix 2) (.int 1)) (ix 3) (.int 1)) (ix 4) (.int (-1))) (ix 5) (.int 0)) (ix 6) (.int (-1))) (ix 7) (.int (-1))), .inr (0, 8, updV (updV (updV (updV (updV (updV (updV (updV (fun _ => .int 0) (ix 0) (.int 0)) (ix 1) (.int 1)) (ix 2) (.int 1)) (ix 3) (.int (-1))) (ix 4) (.int 0)) (ix 5) (.int (-1))) (ix 6) (.int (-1))) (ix 7) (.int 1)), .inr (0, 8, updV (updV (updV (updV (updV (updV (updV (updV (fun _ => .int 0) (ix 0) (.int 0)) (ix 1) (.int 2)) (ix 2) (.int 1)) (ix 3) (.int 7)) (ix 4) (.int 4)) (ix 5) (.int 6)) (ix 6) (.int 5)) (ix 7) (.int 3)), .inr (0, 8, updV (updV (updV (updV (updV (updV (updV (updV (fun _ => .int 0) (ix 0) (.int 1)) (ix 1) (.int 4)) (ix 2) (.int 7)) (ix 3) (.int 2)) (ix 4) (.int 5)) (ix 5) (.int 0)) (ix 6) (.int 3)) (ix 7) (.int 6)), .inr (0, 8, updV (updV (updV (updV (updV (updV (updV (updV (fun _ => .int 0) (ix 0) (.int 4)) (ix 1) (.int 1)) (ix 2) (.int 7)) (ix 3) (.int 6)) (ix 4) (.int 0)) (ix 5) (.int 5)) (ix 6) (.int 3)) (ix 7) (.int 2)), .inr (0, 8, updV (updV (updV (updV (updV (updV (updV (updV (fun _ => .int 0) (ix 0) (.int 1)) (ix 1) (.int 0)) (ix 2) (.int 2)) (ix 3) (.int 7)) (ix 4) (.int 5)) (ix 5) (.int 4)) (ix 6) (.int 6)) (ix 7) (.int 3)), .inr (1, 60, fun _ => .int 0), .inr (0, 480, fun _ => .int 0), .inr (0, 60, fun _ => .int 0), .inr (0, 60, fun _ => .int 0), .inr (1, 60, fun _ => .int 0)] QQ := by
  refine e_load0 (pc' := 306) d_X8_init_305 rfl ?_
  refine e_bipush (pc' := 308) (x := 60) d_X8_init_306 (by decide) rfl ?_
  refine e_newarr (b' := (28, 1036)) (t := 0) (N := 60) (pc' := 310) rfl (by decide) ac_0 d_X8_init_308 (by decide) (by decide) (by decide) rfl rfl rfl ?_
  refine e_put (j := 16) (pc' := 313) fln_X8_44 fi_8_12 rfl d_X8_init_310 rfl rfl rfl rfl rfl ?_
  refine e_load0 (pc' := 314) d_X8_init_313 rfl ?_
  refine e_bipush (pc' := 316) (x := 8) d_X8_init_314 (by decide) rfl ?_
  refine e_newarr (b' := (27, 1028)) (t := 0) (N := 8) (pc' := 318) rfl (by decide) ac_0 d_X8_init_316 (by decide) (by decide) (by decide) rfl rfl rfl ?_
  refine e_put (j := 16) (pc' := 321) fln_X8_47 fi_8_13 rfl d_X8_init_318 rfl rfl rfl rfl rfl ?_
  refine e_load0 (pc' := 322) d_X8_init_321 rfl ?_
  refine e_bipush (pc' := 324) (x := 32) d_X8_init_322 (by decide) rfl ?_
  refine e_newarr (b' := (26, 996)) (t := 0) (N := 32) (pc' := 326) rfl (by decide) ac_0 d_X8_init_324 (by decide) (by decide) (by decide) rfl rfl rfl ?_
  refine e_put (j := 16) (pc' := 329) fln_X8_50 fi_8_15 rfl d_X8_init_326 rfl rfl rfl rfl rfl ?_
  refine e_load0 (pc' := 330) d_X8_init_329 rfl ?_
  refine e_bipush (pc' := 332) (x := 32) d_X8_init_330 (by decide) rfl ?_
  refine e_newarr (b' := (25, 964)) (t := 0) (N := 32) (pc' := 334) rfl (by decide) ac_0 d_X8_init_332 (by decide) (by decide) (by decide) rfl rfl rfl ?_
  refine e_put (j := 16) (pc' := 337) fln_X8_53 fi_8_16 rfl d_X8_init_334 rfl rfl rfl rfl rfl ?_
  refine e_load0 (pc' := 338) d_X8_init_337 rfl ?_
  refine e_bipush (pc' := 340) (x := 8) d_X8_init_338 (by decide) rfl ?_
  refine e_newarr (b' := (24, 956)) (t := 0) (N := 8) (pc' := 342) rfl (by decide) ac_0 d_X8_init_340 (by decide) (by decide) (by decide) rfl rfl rfl ?_
  refine e_put (j := 16) (pc' := 345) fln_X8_56 fi_8_18 rfl d_X8_init_342 rfl rfl rfl rfl rfl ?_
  exact e_norm rfl k
set_option maxRecDepth 20000 in
set_option maxHeartbeats 4000000 in
theorem mch_345 {d : Nat} {X : MX} {Y : MY} {B : Heap} {QQ : Array Value → State → Outcome → State → Prop} (k : WD true (d + 1) X Y (19, 916) mi_X8_init 385 B 16 [] [.inl (7, [.ref (B.size + 1), .ref (B.size + 3), .ref (B.size + 7), .ref (B.size + 12)]), .inl (6, [.ref (B.size + 2), .int 0, .int 0]), .inr (2, 60, fun _ => .null), .inl (2, [.ref (B.size + 4), .ref (B.size + 5), .ref (B.size + 6), .int 7, .int 0]), .inr (0, 8, fun _ => .int 0), .inr (0, 8, fun _ => .int 0), .inr (0, 64, fun _ => .int 0), .inl (5, [.ref (B.size + 8), .ref (B.size + 9), .ref (B.size + 10), .ref (B.size + 11), .int 1, .int 255]), .inr (0, 40, updV (fun _ => .int 0) (ix 0) (.int 9)), .inr (0, 40, updV (fun _ => .int 0) (ix 0) (.int 9)), .inr (0, 40, updV (fun _ => .int 0) (ix 0) (.int 1)), .inr (0, 40, fun _ => .int 0), .inl (0, [.ref (B.size + 13), .int 0, .ref (B.size + 14), .int 0, .ref (B.size + 15)]), .inr (3, 12, fun _ => .null), .inr (0, 500, fun _ => .int 0), .inr (0, 12, fun _ => .int 0), .inl (8, [.ref (B.size + 17), .ref (B.size + 18), .ref (B.size + 19), .ref (B.size + 20), .ref (B.size + 21), .ref (B.size + 22), .int 0, .ref (B.size + 23), .ref (B.size + 24), .ref (B.size + 25), .ref (B.size + 26), .ref (B.size + 27), .ref (B.size + 28), .ref (B.size + 29), .int 0, .ref (B.size + 30), .ref (B.size + 31), .int 0, .ref (B.size + 32), .ref (B.size + 33), .ref (B.size + 34), .ref (B.size + 35), .ref (B.size + 36), .int 0, .ref (B.size + 37), .null, .null, .int 0, .int 0, .int 0, .null, .null, .null, .null, .null, .int 0, .null, .null, .null, .null, .null, .int 0, .null, .null, .null, .null, .null, .null, .null]), .inr (0, 8, updV (updV (updV (updV (updV (updV (updV (updV (fun _ => .int 0) (ix 0) (.int 1)) (ix 1) (.int 0)) (ix 2) (.int 1)) (ix 3) (.int 1)) (ix 4) (.int (-1))) (ix 5) (.int 0)) (ix 6) (.int (-1))) (ix 7) (.int (-1))), .inr (0, 8, updV (updV (updV (updV (updV (updV (updV (updV (fun _ => .int 0) (ix 0) (.int 0)) (ix 1) (.int 1)) (ix 2) (.int 1)) (ix 3) (.int (-1))) (ix 4) (.int 0)) (ix 5) (.int (-1))) (ix 6) (.int (-1))) (ix 7) (.int 1)), .inr (0, 8, updV (updV (updV (updV (updV (updV (updV (updV (fun _ => .int 0) (ix 0) (.int 0)) (ix 1) (.int 2)) (ix 2) (.int 1)) (ix 3) (.int 7)) (ix 4) (.int 4)) (ix 5) (.int 6)) (ix 6) (.int 5)) (ix 7) (.int 3)), .inr (0, 8, updV (updV (updV (updV (updV (updV (updV (updV (fun _ => .int 0) (ix 0) (.int 1)) (ix 1) (.int 4)) (ix 2) (.int 7)) (ix 3) (.int 2)) (ix 4) (.int 5)) (ix 5) (.int 0)) (ix 6) (.int 3)) (ix 7) (.int 6)), .inr (0, 8, updV (updV (updV (updV (updV (updV (updV (updV (fun _ => .int 0) (ix 0) (.int 4)) (ix 1) (.int 1)) (ix 2) (.int 7)) (ix 3) (.int 6)) (ix 4) (.int 0)) (ix 5) (.int 5)) (ix 6) (.int 3)) (ix 7) (.int 2)), .inr (0, 8, updV (updV (updV (updV (updV (updV (updV (updV (fun _ => .int 0) (ix 0) (.int 1)) (ix 1) (.int 0)) (ix 2) (.int 2)) (ix 3) (.int 7)) (ix 4) (.int 5)) (ix 5) (.int 4)) (ix 6) (.int 6)) (ix 7) (.int 3)), .inr (1, 60, fun _ => .int 0), .inr (0, 480, fun _ => .int 0), .inr (0, 60, fun _ => .int 0), .inr (0, 60, fun _ => .int 0), .inr (1, 60, fun _ => .int 0), .inr (0, 60, fun _ => .int 0), .inr (0, 8, fun _ => .int 0), .inr (0, 32, fun _ => .int 0), .inr (0, 32, fun _ => .int 0), .inr (0, 8, fun _ => .int 0), .inr (0, 8, fun _ => .int 0), .inr (0, 8, fun _ => .int 0), .inr (0, 8, fun _ => .int 0), .inr (0, 8, fun _ => .int 0), .inr (0, 8, fun _ => .int 0)] QQ) : WD true (d + 1) X Y (24, 956) mi_X8_init 345 B 16 [] [.inl (7, [.ref (B.size + 1), .ref (B.size + 3), .ref (B.size + 7), .ref (B.size + 12)]), .inl (6, [.ref (B.size + 2), .int 0, .int 0]), .inr (2, 60, fun _ => .null), .inl (2, [.ref (B.size + 4), .ref (B.size + 5), .ref (B.size + 6), .int 7, .int 0]), .inr (0, 8, fun _ => .int 0), .inr (0, 8, fun _ => .int 0), .inr (0, 64, fun _ => .int 0), .inl (5, [.ref (B.size + 8), .ref (B.size + 9), .ref (B.size + 10), .ref (B.size + 11), .int 1, .int 255]), .inr (0, 40, updV (fun _ => .int 0) (ix 0) (.int 9)), .inr (0, 40, updV (fun _ => .int 0) (ix 0) (.int 9)), .inr (0, 40, updV (fun _ => .int 0) (ix 0) (.int 1)), .inr (0, 40, fun _ => .int 0), .inl (0, [.ref (B.size + 13), .int 0, .ref (B.size + 14), .int 0, .ref (B.size + 15)]), .inr (3, 12, fun _ => .null), .inr (0, 500, fun _ => .int 0), .inr (0, 12, fun _ => .int 0), .inl (8, [.ref (B.size + 17), .ref (B.size + 18), .ref (B.size + 19), .ref (B.size + 20), .ref (B.size + 21), .ref (B.size + 22), .int 0, .ref (B.size + 23), .ref (B.size + 24), .ref (B.size + 25), .ref (B.size + 26), .ref (B.size + 27), .ref (B.size + 28), .ref (B.size + 29), .int 0, .ref (B.size + 30), .ref (B.size + 31), .int 0, .ref (B.size + 32), .null, .null, .null, .null, .int 0, .null, .null, .null, .int 0, .int 0, .int 0, .null, .null, .null, .null, .null, .int 0, .null, .null, .null, .null, .null, .int 0, .null, .null, .null, .null, .null, .null, .null]), .inr (0, 8, updV (updV (updV (updV (updV (updV (updV (updV (fun _ => .int 0) (ix 0) (.int 1)) (ix 1) (.int 0)) (ix 2) (.int 1)) (ix 3) (.int 1)) (ix 4) (.int (-1))) (ix 5) (.int 0)) (ix 6) (.int (-1))) (ix 7) (.int (-1))), .inr (0, 8, updV (updV (updV (updV (updV (updV (updV (updV (fun _ => .int 0) (ix 0) (.int 0)) (ix 1) (.int 1)) (ix 2) (.int 1)) (ix 3) (.int (-1))) (ix 4) (.int 0)) (ix 5) (.int (-1))) (ix 6) (.int (-1))) (ix 7) (.int 1)), .inr (0, 8, updV (updV (updV (updV (updV (updV (updV (updV (fun _ => .int 0) (ix 0) (.int 0)) (ix 1) (.int 2)) (ix 2) (.int 1)) (ix 3) (.int 7)) (ix 4) (.int 4)) (ix 5) (.int 6)) (ix 6) (.int 5)) (ix 7) (.int 3)), .inr (0, 8, updV (updV (updV (updV (updV (updV (updV (updV (fun _ => .int 0) (ix 0) (.int 1)) (ix 1) (.int 4)) (ix 2) (.int 7)) (ix 3) (.int 2)) (ix 4) (.int 5)) (ix 5) (.int 0)) (ix 6) (.int 3)) (ix 7) (.int 6)), .inr (0, 8, updV (updV (updV (updV (updV (updV (updV (updV (fun _ => .int 0) (ix 0) (.int 4)) (ix 1) (.int 1)) (ix 2) (.int 7)) (ix 3) (.int 6)) (ix 4) (.int 0)) (ix 5) (.int 5)) (ix 6) (.int 3)) (ix 7) (.int 2)), .inr (0, 8, updV (updV (updV (updV (updV (updV (updV (updV (fun _ => .int 0) (ix 0) (.int 1)) (ix 1) (.int 0)) (ix 2) (.int 2)) (ix 3) (.int 7)) (ix 4) (.int 5)) (ix 5) (.int 4)) (ix 6) (.int 6)) (ix 7) (.int 3)), .inr (1, 60, fun _ => .int 0), .inr (0, 480, fun _ => .int 0), .inr (0, 60, fun _ => .int 0), .inr (0, 60, fun _ => .int 0), .inr (1, 60, fun _ => .int 0), .inr (0, 60, fun _ => .int 0), .inr (0, 8, fun _ => .int 0), .inr (0, 32, fun _ => .int 0), .inr (0, 32, fun _ => .int 0), .inr (0, 8, fun _ => .int 0)] QQ := by
  refine e_load0 (pc' := 346) d_X8_init_345 rfl ?_
  refine e_bipush (pc' := 348) (x := 8) d_X8_init_346 (by decide) rfl ?_
  refine e_newarr (b' := (23, 948)) (t := 0) (N := 8) (pc' := 350) rfl (by decide) ac_0 d_X8_init_348 (by decide) (by decide) (by decide) rfl rfl rfl ?_
  refine e_put (j := 16) (pc' := 353) fln_X8_59 fi_8_19 rfl d_X8_init_350 rfl rfl rfl rfl rfl ?_
  refine e_load0 (pc' := 354) d_X8_init_353 rfl ?_
  refine e_bipush (pc' := 356) (x := 8) d_X8_init_354 (by decide) rfl ?_
  refine e_newarr (b' := (22, 940)) (t := 0) (N := 8) (pc' := 358) rfl (by decide) ac_0 d_X8_init_356 (by decide) (by decide) (by decide) rfl rfl rfl ?_
  refine e_put (j := 16) (pc' := 361) fln_X8_62 fi_8_20 rfl d_X8_init_358 rfl rfl rfl rfl rfl ?_
  refine e_load0 (pc' := 362) d_X8_init_361 rfl ?_
  refine e_bipush (pc' := 364) (x := 8) d_X8_init_362 (by decide) rfl ?_
  refine e_newarr (b' := (21, 932)) (t := 0) (N := 8) (pc' := 366) rfl (by decide) ac_0 d_X8_init_364 (by decide) (by decide) (by decide) rfl rfl rfl ?_
  refine e_put (j := 16) (pc' := 369) fln_X8_65 fi_8_21 rfl d_X8_init_366 rfl rfl rfl rfl rfl ?_
  refine e_load0 (pc' := 370) d_X8_init_369 rfl ?_
  refine e_bipush (pc' := 372) (x := 8) d_X8_init_370 (by decide) rfl ?_
  refine e_newarr (b' := (20, 924)) (t := 0) (N := 8) (pc' := 374) rfl (by decide) ac_0 d_X8_init_372 (by decide) (by decide) (by decide) rfl rfl rfl ?_
  refine e_put (j := 16) (pc' := 377) fln_X8_68 fi_8_22 rfl d_X8_init_374 rfl rfl rfl rfl rfl ?_
  refine e_load0 (pc' := 378) d_X8_init_377 rfl ?_
  refine e_bipush (pc' := 380) (x := 8) d_X8_init_378 (by decide) rfl ?_
  refine e_newarr (b' := (19, 916)) (t := 0) (N := 8) (pc' := 382) rfl (by decide) ac_0 d_X8_init_380 (by decide) (by decide) (by decide) rfl rfl rfl ?_
  refine e_put (j := 16) (pc' := 385) fln_X8_71 fi_8_24 rfl d_X8_init_382 rfl rfl rfl rfl rfl ?_
  exact e_norm rfl k
set_option maxRecDepth 20000 in
set_option maxHeartbeats 4000000 in
theorem mch_385 {d : Nat} {X : MX} {Y : MY} {B : Heap} {QQ : Array Value → State → Outcome → State → Prop} (k : WD true (d + 1) X Y (14, 820) mi_X8_init 425 B 16 [] [.inl (7, [.ref (B.size + 1), .ref (B.size + 3), .ref (B.size + 7), .ref (B.size + 12)]), .inl (6, [.ref (B.size + 2), .int 0, .int 0]), .inr (2, 60, fun _ => .null), .inl (2, [.ref (B.size + 4), .ref (B.size + 5), .ref (B.size + 6), .int 7, .int 0]), .inr (0, 8, fun _ => .int 0), .inr (0, 8, fun _ => .int 0), .inr (0, 64, fun _ => .int 0), .inl (5, [.ref (B.size + 8), .ref (B.size + 9), .ref (B.size + 10), .ref (B.size + 11), .int 1, .int 255]), .inr (0, 40, updV (fun _ => .int 0) (ix 0) (.int 9)), .inr (0, 40, updV (fun _ => .int 0) (ix 0) (.int 9)), .inr (0, 40, updV (fun _ => .int 0) (ix 0) (.int 1)), .inr (0, 40, fun _ => .int 0), .inl (0, [.ref (B.size + 13), .int 0, .ref (B.size + 14), .int 0, .ref (B.size + 15)]), .inr (3, 12, fun _ => .null), .inr (0, 500, fun _ => .int 0), .inr (0, 12, fun _ => .int 0), .inl (8, [.ref (B.size + 17), .ref (B.size + 18), .ref (B.size + 19), .ref (B.size + 20), .ref (B.size + 21), .ref (B.size + 22), .int 0, .ref (B.size + 23), .ref (B.size + 24), .ref (B.size + 25), .ref (B.size + 26), .ref (B.size + 27), .ref (B.size + 28), .ref (B.size + 29), .int 0, .ref (B.size + 30), .ref (B.size + 31), .int 0, .ref (B.size + 32), .ref (B.size + 33), .ref (B.size + 34), .ref (B.size + 35), .ref (B.size + 36), .int 0, .ref (B.size + 37), .ref (B.size + 38), .ref (B.size + 39), .int 0, .int 0, .int 0, .ref (B.size + 40), .ref (B.size + 41), .ref (B.size + 42), .null, .null, .int 0, .null, .null, .null, .null, .null, .int 0, .null, .null, .null, .null, .null, .null, .null]), .inr (0, 8, updV (updV (updV (updV (updV (updV (updV (updV (fun _ => .int 0) (ix 0) (.int 1)) (ix 1) (.int 0)) (ix 2) (.int 1)) (ix 3) (.int 1)) (ix 4) (.int (-1))) (ix 5) (.int 0)) (ix 6) (.int (-1))) (ix 7) (.int (-1))), .inr (0, 8, updV (updV (updV (updV (updV (updV (updV (updV (fun _ => .int 0) (ix 0) (.int 0)) (ix 1) (.int 1)) (ix 2) (.int 1)) (ix 3) (.int (-1))) (ix 4) (.int 0)) (ix 5) (.int (-1))) (ix 6) (.int (-1))) (ix 7) (.int 1)), .inr (0, 8, updV (updV (updV (updV (updV (updV (updV (updV (fun _ => .int 0) (ix 0) (.int 0)) (ix 1) (.int 2)) (ix 2) (.int 1)) (ix 3) (.int 7)) (ix 4) (.int 4)) (ix 5) (.int 6)) (ix 6) (.int 5)) (ix 7) (.int 3)), .inr (0, 8, updV (updV (updV (updV (updV (updV (updV (updV (fun _ => .int 0) (ix 0) (.int 1)) (ix 1) (.int 4)) (ix 2) (.int 7)) (ix 3) (.int 2)) (ix 4) (.int 5)) (ix 5) (.int 0)) (ix 6) (.int 3)) (ix 7) (.int 6)), .inr (0, 8, updV (updV (updV (updV (updV (updV (updV (updV (fun _ => .int 0) (ix 0) (.int 4)) (ix 1) (.int 1)) (ix 2) (.int 7)) (ix 3) (.int 6)) (ix 4) (.int 0)) (ix 5) (.int 5)) (ix 6) (.int 3)) (ix 7) (.int 2)), .inr (0, 8, updV (updV (updV (updV (updV (updV (updV (updV (fun _ => .int 0) (ix 0) (.int 1)) (ix 1) (.int 0)) (ix 2) (.int 2)) (ix 3) (.int 7)) (ix 4) (.int 5)) (ix 5) (.int 4)) (ix 6) (.int 6)) (ix 7) (.int 3)), .inr (1, 60, fun _ => .int 0), .inr (0, 480, fun _ => .int 0), .inr (0, 60, fun _ => .int 0), .inr (0, 60, fun _ => .int 0), .inr (1, 60, fun _ => .int 0), .inr (0, 60, fun _ => .int 0), .inr (0, 8, fun _ => .int 0), .inr (0, 32, fun _ => .int 0), .inr (0, 32, fun _ => .int 0), .inr (0, 8, fun _ => .int 0), .inr (0, 8, fun _ => .int 0), .inr (0, 8, fun _ => .int 0), .inr (0, 8, fun _ => .int 0), .inr (0, 8, fun _ => .int 0), .inr (0, 8, fun _ => .int 0), .inr (0, 8, fun _ => .int 0), .inr (0, 64, fun _ => .int 0), .inr (0, 8, fun _ => .int 0), .inr (0, 8, fun _ => .int 0), .inr (0, 8, fun _ => .int 0)] QQ) : WD true (d + 1) X Y (19, 916) mi_X8_init 385 B 16 [] [.inl (7, [.ref (B.size + 1), .ref (B.size + 3), .ref (B.size + 7), .ref (B.size + 12)]), .inl (6, [.ref (B.size + 2), .int 0, .int 0]), .inr (2, 60, fun _ => .null), .inl (2, [.ref (B.size + 4), .ref (B.size + 5), .ref (B.size + 6), .int 7, .int 0]), .inr (0, 8, fun _ => .int 0), .inr (0, 8, fun _ => .int 0), .inr (0, 64, fun _ => .int 0), .inl (5, [.ref (B.size + 8), .ref (B.size + 9), .ref (B.size + 10), .ref (B.size + 11), .int 1, .int 255]), .inr (0, 40, updV (fun _ => .int 0) (ix 0) (.int 9)), .inr (0, 40, updV (fun _ => .int 0) (ix 0) (.int 9)), .inr (0, 40, updV (fun _ => .int 0) (ix 0) (.int 1)), .inr (0, 40, fun _ => .int 0), .inl (0, [.ref (B.size + 13), .int 0, .ref (B.size + 14), .int 0, .ref (B.size + 15)]), .inr (3, 12, fun _ => .null), .inr (0, 500, fun _ => .int 0), .inr (0, 12, fun _ => .int 0), .inl (8, [.ref (B.size + 17), .ref (B.size + 18), .ref (B.size + 19), .ref (B.size + 20), .ref (B.size + 21), .ref (B.size + 22), .int 0, .ref (B.size + 23), .ref (B.size + 24), .ref (B.size + 25), .ref (B.size + 26), .ref (B.size + 27), .ref (B.size + 28), .ref (B.size + 29), .int 0, .ref (B.size + 30), .ref (B.size + 31), .int 0, .ref (B.size + 32), .ref (B.size + 33), .ref (B.size + 34), .ref (B.size + 35), .ref (B.size + 36), .int 0, .ref (B.size + 37), .null, .null, .int 0, .int 0, .int 0, .null, .null, .null, .null, .null, .int 0, .null, .null, .null, .null, .null, .int 0, .null, .null, .null, .null, .null, .null, .null]), .inr (0, 8, updV (updV (updV (updV (updV (updV (updV (updV (fun _ => .int 0) (ix 0) (.int 1)) (ix 1) (.int 0)) (ix 2) (.int 1)) (ix 3) (.int 1)) (ix 4) (.int (-1))) (ix 5) (.int 0)) (ix 6) (.int (-1))) (ix 7) (.int (-1))), .inr (0, 8, updV (updV (updV (updV (updV (updV (updV (updV (fun _ => .int 0) (ix 0) (.int 0)) (ix 1) (.int 1)) (ix 2) (.int 1)) (ix 3) (.int (-1))) (ix 4) (.int 0)) (ix 5) (.int (-1))) (ix 6) (.int (-1))) (ix 7) (.int 1)), .inr (0, 8, updV (updV (updV (updV (updV (updV (updV (updV (fun _ => .int 0) (ix 0) (.int 0)) (ix 1) (.int 2)) (ix 2) (.int 1)) (ix 3) (.int 7)) (ix 4) (.int 4)) (ix 5) (.int 6)) (ix 6) (.int 5)) (ix 7) (.int 3)), .inr (0, 8, updV (updV (updV (updV (updV (updV (updV (updV (fun _ => .int 0) (ix 0) (.int 1)) (ix 1) (.int 4)) (ix 2) (.int 7)) (ix 3) (.int 2)) (ix 4) (.int 5)) (ix 5) (.int 0)) (ix 6) (.int 3)) (ix 7) (.int 6)), .inr (0, 8, updV (updV (updV (updV (updV (updV (updV (updV (fun _ => .int 0) (ix 0) (.int 4)) (ix 1) (.int 1)) (ix 2) (.int 7)) (ix 3) (.int 6)) (ix 4) (.int 0)) (ix 5) (.int 5)) (ix 6) (.int 3)) (ix 7) (.int 2)), .inr (0, 8, updV (updV (updV (updV (updV (updV (updV (updV (fun _ => .int 0) (ix 0) (.int 1)) (ix 1) (.int 0)) (ix 2) (.int 2)) (ix 3) (.int 7)) (ix 4) (.int 5)) (ix 5) (.int 4)) (ix 6) (.int 6)) (ix 7) (.int 3)), .inr (1, 60, fun _ => .int 0), .inr (0, 480, fun _ => .int 0), .inr (0, 60, fun _ => .int 0), .inr (0, 60, fun _ => .int 0), .inr (1, 60, fun _ => .int 0), .inr (0, 60, fun _ => .int 0), .inr (0, 8, fun _ => .int 0), .inr (0, 32, fun _ => .int 0), .inr (0, 32, fun _ => .int 0), .inr (0, 8, fun _ => .int 0), .inr (0, 8, fun _ => .int 0), .inr (0, 8, fun _ => .int 0), .inr (0, 8, fun _ => .int 0), .inr (0, 8, fun _ => .int 0), .inr (0, 8, fun _ => .int 0)] QQ := by
  refine e_load0 (pc' := 386) d_X8_init_385 rfl ?_
  refine e_bipush (pc' := 388) (x := 8) d_X8_init_386 (by decide) rfl ?_
  refine e_newarr (b' := (18, 908)) (t := 0) (N := 8) (pc' := 390) rfl (by decide) ac_0 d_X8_init_388 (by decide) (by decide) (by decide) rfl rfl rfl ?_
  refine e_put (j := 16) (pc' := 393) fln_X8_74 fi_8_25 rfl d_X8_init_390 rfl rfl rfl rfl rfl ?_
  refine e_load0 (pc' := 394) d_X8_init_393 rfl ?_
  refine e_bipush (pc' := 396) (x := 64) d_X8_init_394 (by decide) rfl ?_
  refine e_newarr (b' := (17, 844)) (t := 0) (N := 64) (pc' := 398) rfl (by decide) ac_0 d_X8_init_396 (by decide) (by decide) (by decide) rfl rfl rfl ?_
  refine e_put (j := 16) (pc' := 401) fln_X8_77 fi_8_26 rfl d_X8_init_398 rfl rfl rfl rfl rfl ?_
  refine e_load0 (pc' := 402) d_X8_init_401 rfl ?_
  refine e_bipush (pc' := 404) (x := 8) d_X8_init_402 (by decide) rfl ?_
  refine e_newarr (b' := (16, 836)) (t := 0) (N := 8) (pc' := 406) rfl (by decide) ac_0 d_X8_init_404 (by decide) (by decide) (by decide) rfl rfl rfl ?_
  refine e_put (j := 16) (pc' := 409) fln_X8_80 fi_8_30 rfl d_X8_init_406 rfl rfl rfl rfl rfl ?_
  refine e_load0 (pc' := 410) d_X8_init_409 rfl ?_
  refine e_bipush (pc' := 412) (x := 8) d_X8_init_410 (by decide) rfl ?_
  refine e_newarr (b' := (15, 828)) (t := 0) (N := 8) (pc' := 414) rfl (by decide) ac_0 d_X8_init_412 (by decide) (by decide) (by decide) rfl rfl rfl ?_
  refine e_put (j := 16) (pc' := 417) fln_X8_83 fi_8_31 rfl d_X8_init_414 rfl rfl rfl rfl rfl ?_
  refine e_load0 (pc' := 418) d_X8_init_417 rfl ?_
  refine e_bipush (pc' := 420) (x := 8) d_X8_init_418 (by decide) rfl ?_
  refine e_newarr (b' := (14, 820)) (t := 0) (N := 8) (pc' := 422) rfl (by decide) ac_0 d_X8_init_420 (by decide) (by decide) (by decide) rfl rfl rfl ?_
  refine e_put (j := 16) (pc' := 425) fln_X8_86 fi_8_32 rfl d_X8_init_422 rfl rfl rfl rfl rfl ?_
  exact e_norm rfl k
set_option maxRecDepth 20000 in
set_option maxHeartbeats 4000000 in
theorem mch_425 {d : Nat} {X : MX} {Y : MY} {B : Heap} {QQ : Array Value → State → Outcome → State → Prop} (k : WD true (d + 1) X Y (9, 684) mi_X8_init 465 B 16 [] [.inl (7, [.ref (B.size + 1), .ref (B.size + 3), .ref (B.size + 7), .ref (B.size + 12)]), .inl (6, [.ref (B.size + 2), .int 0, .int 0]), .inr (2, 60, fun _ => .null), .inl (2, [.ref (B.size + 4), .ref (B.size + 5), .ref (B.size + 6), .int 7, .int 0]), .inr (0, 8, fun _ => .int 0), .inr (0, 8, fun _ => .int 0), .inr (0, 64, fun _ => .int 0), .inl (5, [.ref (B.size + 8), .ref (B.size + 9), .ref (B.size + 10), .ref (B.size + 11), .int 1, .int 255]), .inr (0, 40, updV (fun _ => .int 0) (ix 0) (.int 9)), .inr (0, 40, updV (fun _ => .int 0) (ix 0) (.int 9)), .inr (0, 40, updV (fun _ => .int 0) (ix 0) (.int 1)), .inr (0, 40, fun _ => .int 0), .inl (0, [.ref (B.size + 13), .int 0, .ref (B.size + 14), .int 0, .ref (B.size + 15)]), .inr (3, 12, fun _ => .null), .inr (0, 500, fun _ => .int 0), .inr (0, 12, fun _ => .int 0), .inl (8, [.ref (B.size + 17), .ref (B.size + 18), .ref (B.size + 19), .ref (B.size + 20), .ref (B.size + 21), .ref (B.size + 22), .int 0, .ref (B.size + 23), .ref (B.size + 24), .ref (B.size + 25), .ref (B.size + 26), .ref (B.size + 27), .ref (B.size + 28), .ref (B.size + 29), .int 0, .ref (B.size + 30), .ref (B.size + 31), .int 0, .ref (B.size + 32), .ref (B.size + 33), .ref (B.size + 34), .ref (B.size + 35), .ref (B.size + 36), .int 0, .ref (B.size + 37), .ref (B.size + 38), .ref (B.size + 39), .int 0, .int 0, .int 0, .ref (B.size + 40), .ref (B.size + 41), .ref (B.size + 42), .ref (B.size + 43), .ref (B.size + 44), .int 0, .ref (B.size + 45), .ref (B.size + 46), .ref (B.size + 47), .null, .null, .int 0, .null, .null, .null, .null, .null, .null, .null]), .inr (0, 8, updV (updV (updV (updV (updV (updV (updV (updV (fun _ => .int 0) (ix 0) (.int 1)) (ix 1) (.int 0)) (ix 2) (.int 1)) (ix 3) (.int 1)) (ix 4) (.int (-1))) (ix 5) (.int 0)) (ix 6) (.int (-1))) (ix 7) (.int (-1))), .inr (0, 8, updV (updV (updV (updV (updV (updV (updV (updV (fun _ => .int 0) (ix 0) (.int 0)) (ix 1) (.int 1)) (ix 2) (.int 1)) (ix 3) (.int (-1))) (ix 4) (.int 0)) (ix 5) (.int (-1))) (ix 6) (.int (-1))) (ix 7) (.int 1)), .inr (0, 8, updV (updV (updV (updV (updV (updV (updV (updV (fun _ => .int 0) (ix 0) (.int 0)) (ix 1) (.int 2)) (ix 2) (.int 1)) (ix 3) (.int 7)) (ix 4) (.int 4)) (ix 5) (.int 6)) (ix 6) (.int 5)) (ix 7) (.int 3)), .inr (0, 8, updV (updV (updV (updV (updV (updV (updV (updV (fun _ => .int 0) (ix 0) (.int 1)) (ix 1) (.int 4)) (ix 2) (.int 7)) (ix 3) (.int 2)) (ix 4) (.int 5)) (ix 5) (.int 0)) (ix 6) (.int 3)) (ix 7) (.int 6)), .inr (0, 8, updV (updV (updV (updV (updV (updV (updV (updV (fun _ => .int 0) (ix 0) (.int 4)) (ix 1) (.int 1)) (ix 2) (.int 7)) (ix 3) (.int 6)) (ix 4) (.int 0)) (ix 5) (.int 5)) (ix 6) (.int 3)) (ix 7) (.int 2)), .inr (0, 8, updV (updV (updV (updV (updV (updV (updV (updV (fun _ => .int 0) (ix 0) (.int 1)) (ix 1) (.int 0)) (ix 2) (.int 2)) (ix 3) (.int 7)) (ix 4) (.int 5)) (ix 5) (.int 4)) (ix 6) (.int 6)) (ix 7) (.int 3)), .inr (1, 60, fun _ => .int 0), .inr (0, 480, fun _ => .int 0), .inr (0, 60, fun _ => .int 0), .inr (0, 60, fun _ => .int 0), .inr (1, 60, fun _ => .int 0), .inr (0, 60, fun _ => .int 0), .inr (0, 8, fun _ => .int 0), .inr (0, 32, fun _ => .int 0), .inr (0, 32, fun _ => .int 0), .inr (0, 8, fun _ => .int 0), .inr (0, 8, fun _ => .int 0), .inr (0, 8, fun _ => .int 0), .inr (0, 8, fun _ => .int 0), .inr (0, 8, fun _ => .int 0), .inr (0, 8, fun _ => .int 0), .inr (0, 8, fun _ => .int 0), .inr (0, 64, fun _ => .int 0), .inr (0, 8, fun _ => .int 0), .inr (0, 8, fun _ => .int 0), .inr (0, 8, fun _ => .int 0), .inr (0, 8, fun _ => .int 0), .inr (0, 8, fun _ => .int 0), .inr (0, 40, fun _ => .int 0), .inr (0, 40, fun _ => .int 0), .inr (0, 40, fun _ => .int 0)] QQ) : WD true (d + 1) X Y (14, 820) mi_X8_init 425 B 16 [] [.inl (7, [.ref (B.size + 1), .ref (B.size + 3), .ref (B.size + 7), .ref (B.size + 12)]), .inl (6, [.ref (B.size + 2), .int 0, .int 0]), .inr (2, 60, fun _ => .null), .inl (2, [.ref (B.size + 4), .ref (B.size + 5), .ref (B.size + 6), .int 7, .int 0]), .inr (0, 8, fun _ => .int 0), .inr (0, 8, fun _ => .int 0), .inr (0, 64, fun _ => .int 0), .inl (5, [.ref (B.size + 8), .ref (B.size + 9), .ref (B.size + 10), .ref (B.size + 11), .int 1, .int 255]), .inr (0, 40, updV (fun _ => .int 0) (ix 0) (.int 9)), .inr (0, 40, updV (fun _ => .int 0) (ix 0) (.int 9)), .inr (0, 40, updV (fun _ => .int 0) (ix 0) (.int 1)), .inr (0, 40, fun _ => .int 0), .inl (0, [.ref (B.size + 13), .int 0, .ref (B.size + 14), .int 0, .ref (B.size + 15)]), .inr (3, 12, fun _ => .null), .inr (0, 500, fun _ => .int 0), .inr (0, 12, fun _ => .int 0), .inl (8, [.ref (B.size + 17), .ref (B.size + 18), .ref (B.size + 19), .ref (B.size + 20), .ref (B.size + 21), .ref (B.size + 22), .int 0, .ref (B.size + 23), .ref (B.size + 24), .ref (B.size + 25), .ref (B.size + 26), .ref (B.size + 27), .ref (B.size + 28), .ref (B.size + 29), .int 0, .ref (B.size + 30), .ref (B.size + 31), .int 0, .ref (B.size + 32), .ref (B.size + 33), .ref (B.size + 34), .ref (B.size + 35), .ref (B.size + 36), .int 0, .ref (B.size + 37), .ref (B.size + 38), .ref (B.size + 39), .int 0, .int 0, .int 0, .ref (B.size + 40), .ref (B.size + 41), .ref (B.size + 42), .null, .null, .int 0, .null, .null, .null, .null, .null, .int 0, .null, .null, .null, .null, .null, .null, .null]), .inr (0, 8, updV (updV (updV (updV (updV (updV (updV (updV (fun _ => .int 0) (ix 0) (.int 1)) (ix 1) (.int 0)) (ix 2) (.int 1)) (ix 3) (.int 1)) (ix 4) (.int (-1))) (ix 5) (.int 0)) (ix 6) (.int (-1))) (ix 7) (.int (-1))), .inr (0, 8, updV (updV (updV (updV (updV (updV (updV (updV (fun _ => .int 0) (ix 0) (.int 0)) (ix 1) (.int 1)) (ix 2) (.int 1)) (ix 3) (.int (-1))) (ix 4) (.int 0)) (ix 5) (.int (-1))) (ix 6) (.int (-1))) (ix 7) (.int 1)), .inr (0, 8, updV (updV (updV (updV (updV (updV (updV (updV (fun _ => .int 0) (ix 0) (.int 0)) (ix 1) (.int 2)) (ix 2) (.int 1)) (ix 3) (.int 7)) (ix 4) (.int 4)) (ix 5) (.int 6)) (ix 6) (.int 5)) (ix 7) (.int 3)), .inr (0, 8, updV (updV (updV (updV (updV (updV (updV (updV (fun _ => .int 0) (ix 0) (.int 1)) (ix 1) (.int 4)) (ix 2) (.int 7)) (ix 3) (.int 2)) (ix 4) (.int 5)) (ix 5) (.int 0)) (ix 6) (.int 3)) (ix 7) (.int 6)), .inr (0, 8, updV (updV (updV (updV (updV (updV (updV (updV (fun _ => .int 0) (ix 0) (.int 4)) (ix 1) (.int 1)) (ix 2) (.int 7)) (ix 3) (.int 6)) (ix 4) (.int 0)) (ix 5) (.int 5)) (ix 6) (.int 3)) (ix 7) (.int 2)), .inr (0, 8, updV (updV (updV (updV (updV (updV (updV (updV (fun _ => .int 0) (ix 0) (.int 1)) (ix 1) (.int 0)) (ix 2) (.int 2)) (ix 3) (.int 7)) (ix 4) (.int 5)) (ix 5) (.int 4)) (ix 6) (.int 6)) (ix 7) (.int 3)), .inr (1, 60, fun _ => .int 0), .inr (0, 480, fun _ => .int 0), .inr (0, 60, fun _ => .int 0), .inr (0, 60, fun _ => .int 0), .inr (1, 60, fun _ => .int 0), .inr (0, 60, fun _ => .int 0), .inr (0, 8, fun _ => .int 0), .inr (0, 32, fun _ => .int 0), .inr (0, 32, fun _ => .int 0), .inr (0, 8, fun _ => .int 0), .inr (0, 8, fun _ => .int 0), .inr (0, 8, fun _ => .int 0), .inr (0, 8, fun _ => .int 0), .inr (0, 8, fun _ => .int 0), .inr (0, 8, fun _ => .int 0), .inr (0, 8, fun _ => .int 0), .inr (0, 64, fun _ => .int 0), .inr (0, 8, fun _ => .int 0), .inr (0, 8, fun _ => .int 0), .inr (0, 8, fun _ => .int 0)] QQ := by
  refine e_load0 (pc' := 426) d_X8_init_425 rfl ?_
  refine e_bipush (pc' := 428) (x := 8) d_X8_init_426 (by decide) rfl ?_
  refine e_newarr (b' := (13, 812)) (t := 0) (N := 8) (pc' := 430) rfl (by decide) ac_0 d_X8_init_428 (by decide) (by decide) (by decide) rfl rfl rfl ?_
  refine e_put (j := 16) (pc' := 433) fln_X8_89 fi_8_33 rfl d_X8_init_430 rfl rfl rfl rfl rfl ?_
  refine e_load0 (pc' := 434) d_X8_init_433 rfl ?_
  refine e_bipush (pc' := 436) (x := 8) d_X8_init_434 (by decide) rfl ?_
  refine e_newarr (b' := (12, 804)) (t := 0) (N := 8) (pc' := 438) rfl (by decide) ac_0 d_X8_init_436 (by decide) (by decide) (by decide) rfl rfl rfl ?_
  refine e_put (j := 16) (pc' := 441) fln_X8_92 fi_8_34 rfl d_X8_init_438 rfl rfl rfl rfl rfl ?_
  refine e_load0 (pc' := 442) d_X8_init_441 rfl ?_
  refine e_bipush (pc' := 444) (x := 40) d_X8_init_442 (by decide) rfl ?_
  refine e_newarr (b' := (11, 764)) (t := 0) (N := 40) (pc' := 446) rfl (by decide) ac_0 d_X8_init_444 (by decide) (by decide) (by decide) rfl rfl rfl ?_
  refine e_put (j := 16) (pc' := 449) fln_X8_95 fi_8_36 rfl d_X8_init_446 rfl rfl rfl rfl rfl ?_
  refine e_load0 (pc' := 450) d_X8_init_449 rfl ?_
  refine e_bipush (pc' := 452) (x := 40) d_X8_init_450 (by decide) rfl ?_
  refine e_newarr (b' := (10, 724)) (t := 0) (N := 40) (pc' := 454) rfl (by decide) ac_0 d_X8_init_452 (by decide) (by decide) (by decide) rfl rfl rfl ?_
  refine e_put (j := 16) (pc' := 457) fln_X8_98 fi_8_37 rfl d_X8_init_454 rfl rfl rfl rfl rfl ?_
  refine e_load0 (pc' := 458) d_X8_init_457 rfl ?_
  refine e_bipush (pc' := 460) (x := 40) d_X8_init_458 (by decide) rfl ?_
  refine e_newarr (b' := (9, 684)) (t := 0) (N := 40) (pc' := 462) rfl (by decide) ac_0 d_X8_init_460 (by decide) (by decide) (by decide) rfl rfl rfl ?_
  refine e_put (j := 16) (pc' := 465) fln_X8_101 fi_8_38 rfl d_X8_init_462 rfl rfl rfl rfl rfl ?_
  exact e_norm rfl k
set_option maxRecDepth 20000 in
set_option maxHeartbeats 4000000 in
theorem mch_465 {d : Nat} {X : MX} {Y : MY} {B : Heap} {QQ : Array Value → State → Outcome → State → Prop} (k : WD true (d + 1) X Y (4, 144) mi_X8_init 507 B 16 [] [.inl (7, [.ref (B.size + 1), .ref (B.size + 3), .ref (B.size + 7), .ref (B.size + 12)]), .inl (6, [.ref (B.size + 2), .int 0, .int 0]), .inr (2, 60, fun _ => .null), .inl (2, [.ref (B.size + 4), .ref (B.size + 5), .ref (B.size + 6), .int 7, .int 0]), .inr (0, 8, fun _ => .int 0), .inr (0, 8, fun _ => .int 0), .inr (0, 64, fun _ => .int 0), .inl (5, [.ref (B.size + 8), .ref (B.size + 9), .ref (B.size + 10), .ref (B.size + 11), .int 1, .int 255]), .inr (0, 40, updV (fun _ => .int 0) (ix 0) (.int 9)), .inr (0, 40, updV (fun _ => .int 0) (ix 0) (.int 9)), .inr (0, 40, updV (fun _ => .int 0) (ix 0) (.int 1)), .inr (0, 40, fun _ => .int 0), .inl (0, [.ref (B.size + 13), .int 0, .ref (B.size + 14), .int 0, .ref (B.size + 15)]), .inr (3, 12, fun _ => .null), .inr (0, 500, fun _ => .int 0), .inr (0, 12, fun _ => .int 0), .inl (8, [.ref (B.size + 17), .ref (B.size + 18), .ref (B.size + 19), .ref (B.size + 20), .ref (B.size + 21), .ref (B.size + 22), .int 0, .ref (B.size + 23), .ref (B.size + 24), .ref (B.size + 25), .ref (B.size + 26), .ref (B.size + 27), .ref (B.size + 28), .ref (B.size + 29), .int 0, .ref (B.size + 30), .ref (B.size + 31), .int 0, .ref (B.size + 32), .ref (B.size + 33), .ref (B.size + 34), .ref (B.size + 35), .ref (B.size + 36), .int 0, .ref (B.size + 37), .ref (B.size + 38), .ref (B.size + 39), .int 0, .int 0, .int 0, .ref (B.size + 40), .ref (B.size + 41), .ref (B.size + 42), .ref (B.size + 43), .ref (B.size + 44), .int 0, .ref (B.size + 45), .ref (B.size + 46), .ref (B.size + 47), .ref (B.size + 48), .ref (B.size + 49), .int 0, .ref (B.size + 50), .ref (B.size + 51), .ref (B.size + 52), .null, .null, .null, .null]), .inr (0, 8, updV (updV (updV (updV (updV (updV (updV (updV (fun _ => .int 0) (ix 0) (.int 1)) (ix 1) (.int 0)) (ix 2) (.int 1)) (ix 3) (.int 1)) (ix 4) (.int (-1))) (ix 5) (.int 0)) (ix 6) (.int (-1))) (ix 7) (.int (-1))), .inr (0, 8, updV (updV (updV (updV (updV (updV (updV (updV (fun _ => .int 0) (ix 0) (.int 0)) (ix 1) (.int 1)) (ix 2) (.int 1)) (ix 3) (.int (-1))) (ix 4) (.int 0)) (ix 5) (.int (-1))) (ix 6) (.int (-1))) (ix 7) (.int 1)), .inr (0, 8, updV (updV (updV (updV (updV (updV (updV (updV (fun _ => .int 0) (ix 0) (.int 0)) (ix 1) (.int 2)) (ix 2) (.int 1)) (ix 3) (.int 7)) (ix 4) (.int 4)) (ix 5) (.int 6)) (ix 6) (.int 5)) (ix 7) (.int 3)), .inr (0, 8, updV (updV (updV (updV (updV (updV (updV (updV (fun _ => .int 0) (ix 0) (.int 1)) (ix 1) (.int 4)) (ix 2) (.int 7)) (ix 3) (.int 2)) (ix 4) (.int 5)) (ix 5) (.int 0)) (ix 6) (.int 3)) (ix 7) (.int 6)), .inr (0, 8, updV (updV (updV (updV (updV (updV (updV (updV (fun _ => .int 0) (ix 0) (.int 4)) (ix 1) (.int 1)) (ix 2) (.int 7)) (ix 3) (.int 6)) (ix 4) (.int 0)) (ix 5) (.int 5)) (ix 6) (.int 3)) (ix 7) (.int 2)), .inr (0, 8, updV (updV (updV (updV (updV (updV (updV (updV (fun _ => .int 0) (ix 0) (.int 1)) (ix 1) (.int 0)) (ix 2) (.int 2)) (ix 3) (.int 7)) (ix 4) (.int 5)) (ix 5) (.int 4)) (ix 6) (.int 6)) (ix 7) (.int 3)), .inr (1, 60, fun _ => .int 0), .inr (0, 480, fun _ => .int 0), .inr (0, 60, fun _ => .int 0), .inr (0, 60, fun _ => .int 0), .inr (1, 60, fun _ => .int 0), .inr (0, 60, fun _ => .int 0), .inr (0, 8, fun _ => .int 0), .inr (0, 32, fun _ => .int 0), .inr (0, 32, fun _ => .int 0), .inr (0, 8, fun _ => .int 0), .inr (0, 8, fun _ => .int 0), .inr (0, 8, fun _ => .int 0), .inr (0, 8, fun _ => .int 0), .inr (0, 8, fun _ => .int 0), .inr (0, 8, fun _ => .int 0), .inr (0, 8, fun _ => .int 0), .inr (0, 64, fun _ => .int 0), .inr (0, 8, fun _ => .int 0), .inr (0, 8, fun _ => .int 0), .inr (0, 8, fun _ => .int 0), .inr (0, 8, fun _ => .int 0), .inr (0, 8, fun _ => .int 0), .inr (0, 40, fun _ => .int 0), .inr (0, 40, fun _ => .int 0), .inr (0, 40, fun _ => .int 0), .inr (0, 40, fun _ => .int 0), .inr (1, 8, fun _ => .int 0), .inr (0, 12, fun _ => .int 0), .inr (0, 240, fun _ => .int 0), .inr (1, 240, fun _ => .int 0)] QQ) : WD true (d + 1) X Y (9, 684) mi_X8_init 465 B 16 [] [.inl (7, [.ref (B.size + 1), .ref (B.size + 3), .ref (B.size + 7), .ref (B.size + 12)]), .inl (6, [.ref (B.size + 2), .int 0, .int 0]), .inr (2, 60, fun _ => .null), .inl (2, [.ref (B.size + 4), .ref (B.size + 5), .ref (B.size + 6), .int 7, .int 0]), .inr (0, 8, fun _ => .int 0), .inr (0, 8, fun _ => .int 0), .inr (0, 64, fun _ => .int 0), .inl (5, [.ref (B.size + 8), .ref (B.size + 9), .ref (B.size + 10), .ref (B.size + 11), .int 1, .int 255]), .inr (0, 40, updV (fun _ => .int 0) (ix 0) (.int 9)), .inr (0, 40, updV (fun _ => .int 0) (ix 0) (.int 9)), .inr (0, 40, updV (fun _ => .int 0) (ix 0) (.int 1)), .inr (0, 40, fun _ => .int 0), .inl (0, [.ref (B.size + 13), .int 0, .ref (B.size + 14), .int 0, .ref (B.size + 15)]), .inr (3, 12, fun _ => .null), .inr (0, 500, fun _ => .int 0), .inr (0, 12, fun _ => .int 0), .inl (8, [.ref (B.size + 17), .ref (B.size + 18), .ref (B.size + 19), .ref (B.size + 20), .ref (B.size + 21), .ref (B.size + 22), .int 0, .ref (B.size + 23), .ref (B.size + 24), .ref (B.size + 25), .ref (B.size + 26), .ref (B.size + 27), .ref (B.size + 28), .ref (B.size + 29), .int 0, .ref (B.size + 30), .ref (B.size + 31), .int 0, .ref (B.size + 32), .ref (B.size + 33), .ref (B.size + 34), .ref (B.size + 35), .ref (B.size + 36), .int 0, .ref (B.size + 37), .ref (B.size + 38), .ref (B.size + 39), .int 0, .int 0, .int 0, .ref (B.size + 40), .ref (B.size + 41), .ref (B.size + 42), .ref (B.size + 43), .ref (B.size + 44), .int 0, .ref (B.size + 45), .ref (B.size + 46), .ref (B.size + 47), .null, .null, .int 0, .null, .null, .null, .null, .null, .null, .null]), .inr (0, 8, updV (updV (updV (updV (updV (updV (updV (updV (fun _ => .int 0) (ix 0) (.int 1)) (ix 1) (.int 0)) (ix 2) (.int 1)) (ix 3) (.int 1)) (ix 4) (.int (-1))) (ix 5) (.int 0)) (ix 6) (.int (-1))) (ix 7) (.int (-1))), .inr (0, 8, updV (updV (updV (updV (updV (updV (updV (updV (fun _ => .int 0) (ix 0) (.int 0)) (ix 1) (.int 1)) (ix 2) (.int 1)) (ix 3) (.int (-1))) (ix 4) (.int 0)) (ix 5) (.int (-1))) (ix 6) (.int (-1))) (ix 7) (.int 1)), .inr (0, 8, updV (updV (updV (updV (updV (updV (updV (updV (fun _ => .int 0) (ix 0) (.int 0)) (ix 1) (.int 2)) (ix 2) (.int 1)) (ix 3) (.int 7)) (ix 4) (.int 4)) (ix 5) (.int 6)) (ix 6) (.int 5)) (ix 7) (.int 3)), .inr (0, 8, updV (updV (updV (updV (updV (updV (updV (updV (fun _ => .int 0) (ix 0) (.int 1)) (ix 1) (.int 4)) (ix 2) (.int 7)) (ix 3) (.int 2)) (ix 4) (.int 5)) (ix 5) (.int 0)) (ix 6) (.int 3)) (ix 7) (.int 6)), .inr (0, 8, updV (updV (updV (updV (updV (updV (updV (updV (fun _ => .int 0) (ix 0) (.int 4)) (ix 1) (.int 1)) (ix 2) (.int 7)) (ix 3) (.int 6)) (ix 4) (.int 0)) (ix 5) (.int 5)) (ix 6) (.int 3)) (ix 7) (.int 2)), .inr (0, 8, updV (updV (updV (updV (updV (updV (updV (updV (fun _ => .int 0) (ix 0) (.int 1)) (ix 1) (.int 0)) (ix 2) (.int 2)) (ix 3) (.int 7)) (ix 4) (.int 5)) (ix 5) (.int 4)) (ix 6) (.int 6)) (ix 7) (.int 3)), .inr (1, 60, fun _ => .int 0), .inr (0, 480, fun _ => .int 0), .inr (0, 60, fun _ => .int 0), .inr (0, 60, fun _ => .int 0), .inr (1, 60, fun _ => .int 0), .inr (0, 60, fun _ => .int 0), .inr (0, 8, fun _ => .int 0), .inr (0, 32, fun _ => .int 0), .inr (0, 32, fun _ => .int 0), .inr (0, 8, fun _ => .int 0), .inr (0, 8, fun _ => .int 0), .inr (0, 8, fun _ => .int 0), .inr (0, 8, fun _ => .int 0), .inr (0, 8, fun _ => .int 0), .inr (0, 8, fun _ => .int 0), .inr (0, 8, fun _ => .int 0), .inr (0, 64, fun _ => .int 0), .inr (0, 8, fun _ => .int 0), .inr (0, 8, fun _ => .int 0), .inr (0, 8, fun _ => .int 0), .inr (0, 8, fun _ => .int 0), .inr (0, 8, fun _ => .int 0), .inr (0, 40, fun _ => .int 0), .inr (0, 40, fun _ => .int 0), .inr (0, 40, fun _ => .int 0)] QQ := by
  refine e_load0 (pc' := 466) d_X8_init_465 rfl ?_
  refine e_bipush (pc' := 468) (x := 40) d_X8_init_466 (by decide) rfl ?_
  refine e_newarr (b' := (8, 644)) (t := 0) (N := 40) (pc' := 470) rfl (by decide) ac_0 d_X8_init_468 (by decide) (by decide) (by decide) rfl rfl rfl ?_
  refine e_put (j := 16) (pc' := 473) fln_X8_104 fi_8_39 rfl d_X8_init_470 rfl rfl rfl rfl rfl ?_
  refine e_load0 (pc' := 474) d_X8_init_473 rfl ?_
  refine e_bipush (pc' := 476) (x := 8) d_X8_init_474 (by decide) rfl ?_
  refine e_newarr (b' := (7, 636)) (t := 1) (N := 8) (pc' := 478) rfl (by decide) ac_1 d_X8_init_476 (by decide) (by decide) (by decide) rfl rfl rfl ?_
  refine e_put (j := 16) (pc' := 481) fln_X8_107 fi_8_40 rfl d_X8_init_478 rfl rfl rfl rfl rfl ?_
  refine e_load0 (pc' := 482) d_X8_init_481 rfl ?_
  refine e_bipush (pc' := 484) (x := 12) d_X8_init_482 (by decide) rfl ?_
  refine e_newarr (b' := (6, 624)) (t := 0) (N := 12) (pc' := 486) rfl (by decide) ac_0 d_X8_init_484 (by decide) (by decide) (by decide) rfl rfl rfl ?_
  refine e_put (j := 16) (pc' := 489) fln_X8_110 fi_8_42 rfl d_X8_init_486 rfl rfl rfl rfl rfl ?_
  refine e_load0 (pc' := 490) d_X8_init_489 rfl ?_
  refine e_sipush (pc' := 493) (x := 240) d_X8_init_490 (by decide) rfl ?_
  refine e_newarr (b' := (5, 384)) (t := 0) (N := 240) (pc' := 495) rfl (by decide) ac_0 d_X8_init_493 (by decide) (by decide) (by decide) rfl rfl rfl ?_
  refine e_put (j := 16) (pc' := 498) fln_X8_113 fi_8_43 rfl d_X8_init_495 rfl rfl rfl rfl rfl ?_
  refine e_load0 (pc' := 499) d_X8_init_498 rfl ?_
  refine e_sipush (pc' := 502) (x := 240) d_X8_init_499 (by decide) rfl ?_
  refine e_newarr (b' := (4, 144)) (t := 1) (N := 240) (pc' := 504) rfl (by decide) ac_1 d_X8_init_502 (by decide) (by decide) (by decide) rfl rfl rfl ?_
  refine e_put (j := 16) (pc' := 507) fln_X8_116 fi_8_44 rfl d_X8_init_504 rfl rfl rfl rfl rfl ?_
  exact e_norm rfl k
set_option maxRecDepth 20000 in
set_option maxHeartbeats 4000000 in
theorem mch_507 {d : Nat} {X : MX} {Y : MY} {B : Heap} {QQ : Array Value → State → Outcome → State → Prop} (k : WD true (d + 1) X Y (0, 0) mi_X8_init 539 B 16 [] [.inl (7, [.ref (B.size + 1), .ref (B.size + 3), .ref (B.size + 7), .ref (B.size + 12)]), .inl (6, [.ref (B.size + 2), .int 0, .int 0]), .inr (2, 60, fun _ => .null), .inl (2, [.ref (B.size + 4), .ref (B.size + 5), .ref (B.size + 6), .int 7, .int 0]), .inr (0, 8, fun _ => .int 0), .inr (0, 8, fun _ => .int 0), .inr (0, 64, fun _ => .int 0), .inl (5, [.ref (B.size + 8), .ref (B.size + 9), .ref (B.size + 10), .ref (B.size + 11), .int 1, .int 255]), .inr (0, 40, updV (fun _ => .int 0) (ix 0) (.int 9)), .inr (0, 40, updV (fun _ => .int 0) (ix 0) (.int 9)), .inr (0, 40, updV (fun _ => .int 0) (ix 0) (.int 1)), .inr (0, 40, fun _ => .int 0), .inl (0, [.ref (B.size + 13), .int 0, .ref (B.size + 14), .int 0, .ref (B.size + 15)]), .inr (3, 12, fun _ => .null), .inr (0, 500, fun _ => .int 0), .inr (0, 12, fun _ => .int 0), .inl (8, [.ref (B.size + 17), .ref (B.size + 18), .ref (B.size + 19), .ref (B.size + 20), .ref (B.size + 21), .ref (B.size + 22), .int 0, .ref (B.size + 23), .ref (B.size + 24), .ref (B.size + 25), .ref (B.size + 26), .ref (B.size + 27), .ref (B.size + 28), .ref (B.size + 29), .int 0, .ref (B.size + 30), .ref (B.size + 31), .int 0, .ref (B.size + 32), .ref (B.size + 33), .ref (B.size + 34), .ref (B.size + 35), .ref (B.size + 36), .int 0, .ref (B.size + 37), .ref (B.size + 38), .ref (B.size + 39), .int 0, .int 0, .int 0, .ref (B.size + 40), .ref (B.size + 41), .ref (B.size + 42), .ref (B.size + 43), .ref (B.size + 44), .int 0, .ref (B.size + 45), .ref (B.size + 46), .ref (B.size + 47), .ref (B.size + 48), .ref (B.size + 49), .int 0, .ref (B.size + 50), .ref (B.size + 51), .ref (B.size + 52), .ref (B.size + 53), .ref (B.size + 54), .ref (B.size + 55), .ref (B.size + 56)]), .inr (0, 8, updV (updV (updV (updV (updV (updV (updV (updV (fun _ => .int 0) (ix 0) (.int 1)) (ix 1) (.int 0)) (ix 2) (.int 1)) (ix 3) (.int 1)) (ix 4) (.int (-1))) (ix 5) (.int 0)) (ix 6) (.int (-1))) (ix 7) (.int (-1))), .inr (0, 8, updV (updV (updV (updV (updV (updV (updV (updV (fun _ => .int 0) (ix 0) (.int 0)) (ix 1) (.int 1)) (ix 2) (.int 1)) (ix 3) (.int (-1))) (ix 4) (.int 0)) (ix 5) (.int (-1))) (ix 6) (.int (-1))) (ix 7) (.int 1)), .inr (0, 8, updV (updV (updV (updV (updV (updV (updV (updV (fun _ => .int 0) (ix 0) (.int 0)) (ix 1) (.int 2)) (ix 2) (.int 1)) (ix 3) (.int 7)) (ix 4) (.int 4)) (ix 5) (.int 6)) (ix 6) (.int 5)) (ix 7) (.int 3)), .inr (0, 8, updV (updV (updV (updV (updV (updV (updV (updV (fun _ => .int 0) (ix 0) (.int 1)) (ix 1) (.int 4)) (ix 2) (.int 7)) (ix 3) (.int 2)) (ix 4) (.int 5)) (ix 5) (.int 0)) (ix 6) (.int 3)) (ix 7) (.int 6)), .inr (0, 8, updV (updV (updV (updV (updV (updV (updV (updV (fun _ => .int 0) (ix 0) (.int 4)) (ix 1) (.int 1)) (ix 2) (.int 7)) (ix 3) (.int 6)) (ix 4) (.int 0)) (ix 5) (.int 5)) (ix 6) (.int 3)) (ix 7) (.int 2)), .inr (0, 8, updV (updV (updV (updV (updV (updV (updV (updV (fun _ => .int 0) (ix 0) (.int 1)) (ix 1) (.int 0)) (ix 2) (.int 2)) (ix 3) (.int 7)) (ix 4) (.int 5)) (ix 5) (.int 4)) (ix 6) (.int 6)) (ix 7) (.int 3)), .inr (1, 60, fun _ => .int 0), .inr (0, 480, fun _ => .int 0), .inr (0, 60, fun _ => .int 0), .inr (0, 60, fun _ => .int 0), .inr (1, 60, fun _ => .int 0), .inr (0, 60, fun _ => .int 0), .inr (0, 8, fun _ => .int 0), .inr (0, 32, fun _ => .int 0), .inr (0, 32, fun _ => .int 0), .inr (0, 8, fun _ => .int 0), .inr (0, 8, fun _ => .int 0), .inr (0, 8, fun _ => .int 0), .inr (0, 8, fun _ => .int 0), .inr (0, 8, fun _ => .int 0), .inr (0, 8, fun _ => .int 0), .inr (0, 8, fun _ => .int 0), .inr (0, 64, fun _ => .int 0), .inr (0, 8, fun _ => .int 0), .inr (0, 8, fun _ => .int 0), .inr (0, 8, fun _ => .int 0), .inr (0, 8, fun _ => .int 0), .inr (0, 8, fun _ => .int 0), .inr (0, 40, fun _ => .int 0), .inr (0, 40, fun _ => .int 0), .inr (0, 40, fun _ => .int 0), .inr (0, 40, fun _ => .int 0), .inr (1, 8, fun _ => .int 0), .inr (0, 12, fun _ => .int 0), .inr (0, 240, fun _ => .int 0), .inr (1, 240, fun _ => .int 0), .inr (0, 12, fun _ => .int 0), .inr (1, 12, fun _ => .int 0), .inr (1, 60, fun _ => .int 0), .inr (1, 60, fun _ => .int 0)] QQ) : WD true (d + 1) X Y (4, 144) mi_X8_init 507 B 16 [] [.inl (7, [.ref (B.size + 1), .ref (B.size + 3), .ref (B.size + 7), .ref (B.size + 12)]), .inl (6, [.ref (B.size + 2), .int 0, .int 0]), .inr (2, 60, fun _ => .null), .inl (2, [.ref (B.size + 4), .ref (B.size + 5), .ref (B.size + 6), .int 7, .int 0]), .inr (0, 8, fun _ => .int 0), .inr (0, 8, fun _ => .int 0), .inr (0, 64, fun _ => .int 0), .inl (5, [.ref (B.size + 8), .ref (B.size + 9), .ref (B.size + 10), .ref (B.size + 11), .int 1, .int 255]), .inr (0, 40, updV (fun _ => .int 0) (ix 0) (.int 9)), .inr (0, 40, updV (fun _ => .int 0) (ix 0) (.int 9)), .inr (0, 40, updV (fun _ => .int 0) (ix 0) (.int 1)), .inr (0, 40, fun _ => .int 0), .inl (0, [.ref (B.size + 13), .int 0, .ref (B.size + 14), .int 0, .ref (B.size + 15)]), .inr (3, 12, fun _ => .null), .inr (0, 500, fun _ => .int 0), .inr (0, 12, fun _ => .int 0), .inl (8, [.ref (B.size + 17), .ref (B.size + 18), .ref (B.size + 19), .ref (B.size + 20), .ref (B.size + 21), .ref (B.size + 22), .int 0, .ref (B.size + 23), .ref (B.size + 24), .ref (B.size + 25), .ref (B.size + 26), .ref (B.size + 27), .ref (B.size + 28), .ref (B.size + 29), .int 0, .ref (B.size + 30), .ref (B.size + 31), .int 0, .ref (B.size + 32), .ref (B.size + 33), .ref (B.size + 34), .ref (B.size + 35), .ref (B.size + 36), .int 0, .ref (B.size + 37), .ref (B.size + 38), .ref (B.size + 39), .int 0, .int 0, .int 0, .ref (B.size + 40), .ref (B.size + 41), .ref (B.size + 42), .ref (B.size + 43), .ref (B.size + 44), .int 0, .ref (B.size + 45), .ref (B.size + 46), .ref (B.size + 47), .ref (B.size + 48), .ref (B.size + 49), .int 0, .ref (B.size + 50), .ref (B.size + 51), .ref (B.size + 52), .null, .null, .null, .null]), .inr (0, 8, updV (updV (updV (updV (updV (updV (updV (updV (fun _ => .int 0) (ix 0) (.int 1)) (ix 1) (.int 0)) (ix 2) (.int 1)) (ix 3) (.int 1)) (ix 4) (.int (-1))) (ix 5) (.int 0)) (ix 6) (.int (-1))) (ix 7) (.int (-1))), .inr (0, 8, updV (updV (updV (updV (updV (updV (updV (updV (fun _ => .int 0) (ix 0) (.int 0)) (ix 1) (.int 1)) (ix 2) (.int 1)) (ix 3) (.int (-1))) (ix 4) (.int 0)) (ix 5) (.int (-1))) (ix 6) (.int (-1))) (ix 7) (.int 1)), .inr (0, 8, updV (updV (updV (updV (updV (updV (updV (updV (fun _ => .int 0) (ix 0) (.int 0)) (ix 1) (.int 2)) (ix 2) (.int 1)) (ix 3) (.int 7)) (ix 4) (.int 4)) (ix 5) (.int 6)) (ix 6) (.int 5)) (ix 7) (.int 3)), .inr (0, 8, updV (updV (updV (updV (updV (updV (updV (updV (fun _ => .int 0) (ix 0) (.int 1)) (ix 1) (.int 4)) (ix 2) (.int 7)) (ix 3) (.int 2)) (ix 4) (.int 5)) (ix 5) (.int 0)) (ix 6) (.int 3)) (ix 7) (.int 6)), .inr (0, 8, updV (updV (updV (updV (updV (updV (updV (updV (fun _ => .int 0) (ix 0) (.int 4)) (ix 1) (.int 1)) (ix 2) (.int 7)) (ix 3) (.int 6)) (ix 4) (.int 0)) (ix 5) (.int 5)) (ix 6) (.int 3)) (ix 7) (.int 2)), .inr (0, 8, updV (updV (updV (updV (updV (updV (updV (updV (fun _ => .int 0) (ix 0) (.int 1)) (ix 1) (.int 0)) (ix 2) (.int 2)) (ix 3) (.int 7)) (ix 4) (.int 5)) (ix 5) (.int 4)) (ix 6) (.int 6)) (ix 7) (.int 3)), .inr (1, 60, fun _ => .int 0), .inr (0, 480, fun _ => .int 0), .inr (0, 60, fun _ => .int 0), .inr (0, 60, fun _ => .int 0), .inr (1, 60, fun _ => .int 0), .inr (0, 60, fun _ => .int 0), .inr (0, 8, fun _ => .int 0), .inr (0, 32, fun _ => .int 0), .inr (0, 32, fun _ => .int 0), .inr (0, 8, fun _ => .int 0), .inr (0, 8, fun _ => .int 0), .inr (0, 8, fun _ => .int 0), .inr (0, 8, fun _ => .int 0), .inr (0, 8, fun _ => .int 0), .inr (0, 8, fun _ => .int 0), .inr (0, 8, fun _ => .int 0), .inr (0, 64, fun _ => .int 0), .inr (0, 8, fun _ => .int 0), .inr (0, 8, fun _ => .int 0), .inr (0, 8, fun _ => .int 0), .inr (0, 8, fun _ => .int 0), .inr (0, 8, fun _ => .int 0), .inr (0, 40, fun _ => .int 0), .inr (0, 40, fun _ => .int 0), .inr (0, 40, fun _ => .int 0), .inr (0, 40, fun _ => .int 0), .inr (1, 8, fun _ => .int 0), .inr (0, 12, fun _ => .int 0), .inr (0, 240, fun _ => .int 0), .inr (1, 240, fun _ => .int 0)] QQ := by
  refine e_load0 (pc' := 508) d_X8_init_507 rfl ?_
  refine e_bipush (pc' := 510) (x := 12) d_X8_init_508 (by decide) rfl ?_
  refine e_newarr (b' := (3, 132)) (t := 0) (N := 12) (pc' := 512) rfl (by decide) ac_0 d_X8_init_510 (by decide) (by decide) (by decide) rfl rfl rfl ?_
  refine e_put (j := 16) (pc' := 515) fln_X8_119 fi_8_45 rfl d_X8_init_512 rfl rfl rfl rfl rfl ?_
  refine e_load0 (pc' := 516) d_X8_init_515 rfl ?_
  refine e_bipush (pc' := 518) (x := 12) d_X8_init_516 (by decide) rfl ?_
  refine e_newarr (b' := (2, 120)) (t := 1) (N := 12) (pc' := 520) rfl (by decide) ac_1 d_X8_init_518 (by decide) (by decide) (by decide) rfl rfl rfl ?_
  refine e_put (j := 16) (pc' := 523) fln_X8_122 fi_8_46 rfl d_X8_init_520 rfl rfl rfl rfl rfl ?_
  refine e_load0 (pc' := 524) d_X8_init_523 rfl ?_
  refine e_bipush (pc' := 526) (x := 60) d_X8_init_524 (by decide) rfl ?_
  refine e_newarr (b' := (1, 60)) (t := 1) (N := 60) (pc' := 528) rfl (by decide) ac_1 d_X8_init_526 (by decide) (by decide) (by decide) rfl rfl rfl ?_
  refine e_put (j := 16) (pc' := 531) fln_X8_125 fi_8_47 rfl d_X8_init_528 rfl rfl rfl rfl rfl ?_
  refine e_load0 (pc' := 532) d_X8_init_531 rfl ?_
  refine e_bipush (pc' := 534) (x := 60) d_X8_init_532 (by decide) rfl ?_
  refine e_newarr (b' := (0, 0)) (t := 1) (N := 60) (pc' := 536) rfl (by decide) ac_1 d_X8_init_534 (by decide) (by decide) (by decide) rfl rfl rfl ?_
  refine e_put (j := 16) (pc' := 539) fln_X8_128 fi_8_48 rfl d_X8_init_536 rfl rfl rfl rfl rfl ?_
  exact e_norm rfl k
theorem d_X8_init_539 : decode mi_X8_init.2.1 539 = .ok (.iconst 0, 1) := by decide +kernel
theorem d_X8_init_540 : decode mi_X8_init.2.1 540 = .ok (.istore_n 1, 1) := by decide +kernel
theorem d_X8_init_541 : decode mi_X8_init.2.1 541 = .ok (.iload_n 1, 1) := by decide +kernel
theorem d_X8_init_542 : decode mi_X8_init.2.1 542 = .ok (.bipush 8, 2) := by decide +kernel
theorem d_X8_init_544 : decode mi_X8_init.2.1 544 = .ok (.if_icmp .ge 16, 3) := by decide +kernel
theorem d_X8_init_547 : decode mi_X8_init.2.1 547 = .ok (.aload_n 0, 1) := by decide +kernel
theorem d_X8_init_548 : decode mi_X8_init.2.1 548 = .ok (.getfield 107, 3) := by decide +kernel
theorem d_X8_init_551 : decode mi_X8_init.2.1 551 = .ok (.iload_n 1, 1) := by decide +kernel
theorem d_X8_init_552 : decode mi_X8_init.2.1 552 = .ok (.iconst 1, 1) := by decide +kernel
theorem d_X8_init_553 : decode mi_X8_init.2.1 553 = .ok (.bastore, 1) := by decide +kernel
theorem d_X8_init_554 : decode mi_X8_init.2.1 554 = .ok (.iinc 1 1, 3) := by decide +kernel
theorem d_X8_init_557 : decode mi_X8_init.2.1 557 = .ok (.goto (-16), 3) := by decide +kernel
theorem d_X8_init_560 : decode mi_X8_init.2.1 560 = .ok (.aload_n 0, 1) := by decide +kernel
theorem d_X8_init_561 : decode mi_X8_init.2.1 561 = .ok (.bipush 9, 2) := by decide +kernel
theorem d_X8_init_563 : decode mi_X8_init.2.1 563 = .ok (.bipush 9, 2) := by decide +kernel
theorem d_X8_init_565 : decode mi_X8_init.2.1 565 = .ok (.iconst 1, 1) := by decide +kernel
theorem d_X8_init_566 : decode mi_X8_init.2.1 566 = .ok (.iconst 0, 1) := by decide +kernel
theorem d_X8_init_567 : decode mi_X8_init.2.1 567 = .ok (.invokevirtual 131, 3) := by decide +kernel
theorem d_X8_init_570 : decode mi_X8_init.2.1 570 = .ok (.pop, 1) := by decide +kernel
theorem d_X8_init_571 : decode mi_X8_init.2.1 571 = .ok (.return_, 1) := by decide +kernel
theorem cw_X8_131 : CV RX8 131 mi_X8_rule 4 := by unfold CV; decide +kernel
def f_X8_init_560 (σ : SS) : Option (Unit × SS) := cal (f_X8_rule (9 : Int32) (9 : Int32) (1 : Int32) (0 : Int32) σ) (fun x2 s1 => some ((), s1))
theorem t_X8_init_560 {d : Nat} {X : MX} {Y : MY} {b : Nat × Nat} {r : Unit} {σ' : SS} {σ : SS} (h : f_X8_init_560 σ = some (r, σ')) : WM (d + 2) X Y b mi_X8_init 560 [some (vR 25 0), none] [] σ (none, σ') := by
  rw [f_X8_init_560] at h
  refine r_aload_n (pc' := 561) d_X8_init_560 rfl rfl rfl ?_
  refine r_bipush (pc' := 563) d_X8_init_561 cb_9 rfl ?_
  refine r_bipush (pc' := 565) d_X8_init_563 cb_9 rfl ?_
  refine r_iconst (pc' := 566) d_X8_init_565 ci_1 rfl ?_
  refine r_iconst (pc' := 567) d_X8_init_566 ci_0 rfl ?_
  refine v4_i (mc := mi_X8_rule) (bc := (0, 0)) (b' := _) (pc' := 570) cw_X8_131 d_X8_init_567 rfl rfl rfl (Nat.zero_add _).symm (Nat.zero_add _).symm rfl h (fun _ _ e => t_X8_rule e) (fun x2 s1 h => ?_)
  refine r_pop (pc' := 571) d_X8_init_570 rfl rfl ?_
  exact r_vret d_X8_init_571 rfl h
def f_X8_init_541 : Nat → Int32 → SS → Option (Unit × SS)
  | 0, _, _ => none
  | n + 1, v1, σ => if (8 : Int32) ≤ v1 then (f_X8_init_560  σ) else (chk (inr v1 8) (lt_ (up σ 80 0 (ix v1) (1 : Int32)) (fun s1 => lt_ (v1 + (1 : Int32)) (fun x2 => f_X8_init_541 n x2 s1))))
theorem t_X8_init_541 {d : Nat} {X : MX} {Y : MY} {b : Nat × Nat} {r : Unit} {σ' : SS} : ∀ (n : Nat) (v1 : Int32) (σ : SS), f_X8_init_541 n v1 σ = some (r, σ') → WM (d + 2) X Y b mi_X8_init 541 [some (vR 25 0), some (vI v1)] [] σ (none, σ') := by
  intro n
  induction n with
  | zero => intro _ σ h; cases h
  | succ n ih =>
    intro v1 σ h
    rw [f_X8_init_541] at h
    refine r_iload_n (pc' := 542) d_X8_init_541 rfl rfl rfl ?_
    refine r_bipush (pc' := 544) d_X8_init_542 cb_8 rfl ?_
    refine r_icmp_ge (pcT := 560) (pc' := 547) d_X8_init_544 rfl rfl h (fun _ h => ?_) (fun _ h => ?_)
    · exact WM.drop [1] rfl (t_X8_init_560 h)
    · refine r_aload_n (pc' := 548) d_X8_init_547 rfl rfl rfl ?_
      refine r_get (v := vR 80 _) (pc' := 551) fl_X8_107 d_X8_init_548 rfl rfl (fun g => Or.inl ⟨rfl, g.2⟩) rfl ?_
      refine r_iload_n (pc' := 552) d_X8_init_551 rfl rfl rfl ?_
      refine r_iconst (pc' := 553) d_X8_init_552 ci_1 rfl ?_
      refine l_bastore (pc' := 554) d_X8_init_553 rfl (fun _ => rfl) (by decide) (by decide) (fun _ => rfl) (Or.inr rfl) rfl h (fun s1 h => ?_)
      refine l_iinc (pc' := 557) d_X8_init_554 rfl ci_1 rfl rfl rfl h (fun x2 h => ?_)
      refine r_goto (pc' := 541) d_X8_init_557 rfl ?_
      exact WM.drop [] rfl (ih _ _ h)
def f_X8_init_539 (σ : SS) : Option (Unit × SS) := f_X8_init_541 FU (0 : Int32) σ
theorem t_X8_init_539 {d : Nat} {X : MX} {Y : MY} {b : Nat × Nat} {r : Unit} {σ' : SS} {σ : SS} (h : f_X8_init_539 σ = some (r, σ')) : WM (d + 2) X Y b mi_X8_init 539 [some (vR 25 0), none] [] σ (none, σ') := by
  rw [f_X8_init_539] at h
  refine r_iconst (pc' := 540) d_X8_init_539 ci_0 rfl ?_
  refine r_istore_n (pc' := 541) d_X8_init_540 rfl rfl rfl rfl ?_
  exact WM.drop [] rfl (t_X8_init_541 _ _ _ h)
/-! ===== the state at the law's loop ===== -/
def posT : List Nat := [0, 1, 2, 3, 4, 5, 6, 7, 8, 9, 10, 11, 12, 13, 14, 15, 0, 0, 0, 0, 0, 0, 0, 0, 0, 16, 0, 0, 0, 0, 0, 0, 0, 0, 0, 0, 0, 0, 0, 0, 17, 18, 19, 20, 21, 22, 0, 23, 24, 25, 26, 27, 28, 29, 0, 30, 31, 0, 32, 33, 34, 35, 36, 0, 37, 38, 39, 0, 0, 0, 40, 41, 42, 43, 44, 0, 45, 46, 47, 48, 49, 0, 50, 51, 52, 53, 54, 55, 56]
def adI (w : WX) (r i : Nat) : Nat := if 100 ≤ r then w.2.2.2.1 (r - 100) else w.2.2.1.size + (posT[r]?).getD 0
def iniT : List (List Int32) := [[0, 0, 0, 0], [0, 0, 0], [], [0, 0, 0, 7, 0], [], [], [], [0, 0, 0, 0, 1, 255], [9, 0, 0, 0, 0, 0, 0, 0], [9, 0, 0, 0, 0, 0, 0, 0], [1, 0, 0, 0, 0, 0, 0, 0], [], [0, 0, 0, 0, 0], [], [], [], [], [], [], [], [], [], [], [], [], [0, 0, 0, 0, 0, 0, 0, 0, 0, 0, 0, 0, 0, 0, 0, 0, 0, 0, 0, 0, 0, 0, 0, 0, 0, 0, 0, 0, 0, 0, 0, 0, 0, 0, 0, 0, 0, 0, 0, 0, 0, 0, 0, 0, 0, 0, 0, 0, 0], [], [], [], [], [], [], [], [], [], [], [], [], [], [], [1, 0, 1, 1, -1, 0, -1, -1], [0, 1, 1, -1, 0, -1, -1, 1], [0, 2, 1, 7, 4, 6, 5, 3], [1, 4, 7, 2, 5, 0, 3, 6], [4, 1, 7, 6, 0, 5, 3, 2], [1, 0, 2, 7, 5, 4, 6, 3], [], [], [], [], [], [], [], [], [], [], [], [], [], [], [], [], [], [], [], [], [], [], [], [], [], [], [], [], [], [], [], [], [], [], [], [], [], [], [], [], [], [], []]
def σI : SS := (fun r i k => if i = 0 then (((iniT[r]?).getD [])[k]?).getD 0 else 0, 0, 0)
def nsI (w : WX) : List NC := [.inl (7, [.ref (w.2.2.1.size + 1), .ref (w.2.2.1.size + 3), .ref (w.2.2.1.size + 7), .ref (w.2.2.1.size + 12)]), .inl (6, [.ref (w.2.2.1.size + 2), .int 0, .int 0]), .inr (2, 60, fun _ => .null), .inl (2, [.ref (w.2.2.1.size + 4), .ref (w.2.2.1.size + 5), .ref (w.2.2.1.size + 6), .int 7, .int 0]), .inr (0, 8, fun _ => .int 0), .inr (0, 8, fun _ => .int 0), .inr (0, 64, fun _ => .int 0), .inl (5, [.ref (w.2.2.1.size + 8), .ref (w.2.2.1.size + 9), .ref (w.2.2.1.size + 10), .ref (w.2.2.1.size + 11), .int 1, .int 255]), .inr (0, 40, updV (fun _ => .int 0) (ix 0) (.int 9)), .inr (0, 40, updV (fun _ => .int 0) (ix 0) (.int 9)), .inr (0, 40, updV (fun _ => .int 0) (ix 0) (.int 1)), .inr (0, 40, fun _ => .int 0), .inl (0, [.ref (w.2.2.1.size + 13), .int 0, .ref (w.2.2.1.size + 14), .int 0, .ref (w.2.2.1.size + 15)]), .inr (3, 12, fun _ => .null), .inr (0, 500, fun _ => .int 0), .inr (0, 12, fun _ => .int 0), .inl (8, [.ref (w.2.2.1.size + 17), .ref (w.2.2.1.size + 18), .ref (w.2.2.1.size + 19), .ref (w.2.2.1.size + 20), .ref (w.2.2.1.size + 21), .ref (w.2.2.1.size + 22), .int 0, .ref (w.2.2.1.size + 23), .ref (w.2.2.1.size + 24), .ref (w.2.2.1.size + 25), .ref (w.2.2.1.size + 26), .ref (w.2.2.1.size + 27), .ref (w.2.2.1.size + 28), .ref (w.2.2.1.size + 29), .int 0, .ref (w.2.2.1.size + 30), .ref (w.2.2.1.size + 31), .int 0, .ref (w.2.2.1.size + 32), .ref (w.2.2.1.size + 33), .ref (w.2.2.1.size + 34), .ref (w.2.2.1.size + 35), .ref (w.2.2.1.size + 36), .int 0, .ref (w.2.2.1.size + 37), .ref (w.2.2.1.size + 38), .ref (w.2.2.1.size + 39), .int 0, .int 0, .int 0, .ref (w.2.2.1.size + 40), .ref (w.2.2.1.size + 41), .ref (w.2.2.1.size + 42), .ref (w.2.2.1.size + 43), .ref (w.2.2.1.size + 44), .int 0, .ref (w.2.2.1.size + 45), .ref (w.2.2.1.size + 46), .ref (w.2.2.1.size + 47), .ref (w.2.2.1.size + 48), .ref (w.2.2.1.size + 49), .int 0, .ref (w.2.2.1.size + 50), .ref (w.2.2.1.size + 51), .ref (w.2.2.1.size + 52), .ref (w.2.2.1.size + 53), .ref (w.2.2.1.size + 54), .ref (w.2.2.1.size + 55), .ref (w.2.2.1.size + 56)]), .inr (0, 8, updV (updV (updV (updV (updV (updV (updV (updV (fun _ => .int 0) (ix 0) (.int 1)) (ix 1) (.int 0)) (ix 2) (.int 1)) (ix 3) (.int 1)) (ix 4) (.int (-1))) (ix 5) (.int 0)) (ix 6) (.int (-1))) (ix 7) (.int (-1))), .inr (0, 8, updV (updV (updV (updV (updV (updV (updV (updV (fun _ => .int 0) (ix 0) (.int 0)) (ix 1) (.int 1)) (ix 2) (.int 1)) (ix 3) (.int (-1))) (ix 4) (.int 0)) (ix 5) (.int (-1))) (ix 6) (.int (-1))) (ix 7) (.int 1)), .inr (0, 8, updV (updV (updV (updV (updV (updV (updV (updV (fun _ => .int 0) (ix 0) (.int 0)) (ix 1) (.int 2)) (ix 2) (.int 1)) (ix 3) (.int 7)) (ix 4) (.int 4)) (ix 5) (.int 6)) (ix 6) (.int 5)) (ix 7) (.int 3)), .inr (0, 8, updV (updV (updV (updV (updV (updV (updV (updV (fun _ => .int 0) (ix 0) (.int 1)) (ix 1) (.int 4)) (ix 2) (.int 7)) (ix 3) (.int 2)) (ix 4) (.int 5)) (ix 5) (.int 0)) (ix 6) (.int 3)) (ix 7) (.int 6)), .inr (0, 8, updV (updV (updV (updV (updV (updV (updV (updV (fun _ => .int 0) (ix 0) (.int 4)) (ix 1) (.int 1)) (ix 2) (.int 7)) (ix 3) (.int 6)) (ix 4) (.int 0)) (ix 5) (.int 5)) (ix 6) (.int 3)) (ix 7) (.int 2)), .inr (0, 8, updV (updV (updV (updV (updV (updV (updV (updV (fun _ => .int 0) (ix 0) (.int 1)) (ix 1) (.int 0)) (ix 2) (.int 2)) (ix 3) (.int 7)) (ix 4) (.int 5)) (ix 5) (.int 4)) (ix 6) (.int 6)) (ix 7) (.int 3)), .inr (1, 60, fun _ => .int 0), .inr (0, 480, fun _ => .int 0), .inr (0, 60, fun _ => .int 0), .inr (0, 60, fun _ => .int 0), .inr (1, 60, fun _ => .int 0), .inr (0, 60, fun _ => .int 0), .inr (0, 8, fun _ => .int 0), .inr (0, 32, fun _ => .int 0), .inr (0, 32, fun _ => .int 0), .inr (0, 8, fun _ => .int 0), .inr (0, 8, fun _ => .int 0), .inr (0, 8, fun _ => .int 0), .inr (0, 8, fun _ => .int 0), .inr (0, 8, fun _ => .int 0), .inr (0, 8, fun _ => .int 0), .inr (0, 8, fun _ => .int 0), .inr (0, 64, fun _ => .int 0), .inr (0, 8, fun _ => .int 0), .inr (0, 8, fun _ => .int 0), .inr (0, 8, fun _ => .int 0), .inr (0, 8, fun _ => .int 0), .inr (0, 8, fun _ => .int 0), .inr (0, 40, fun _ => .int 0), .inr (0, 40, fun _ => .int 0), .inr (0, 40, fun _ => .int 0), .inr (0, 40, fun _ => .int 0), .inr (1, 8, fun _ => .int 0), .inr (0, 12, fun _ => .int 0), .inr (0, 240, fun _ => .int 0), .inr (1, 240, fun _ => .int 0), .inr (0, 12, fun _ => .int 0), .inr (1, 12, fun _ => .int 0), .inr (1, 60, fun _ => .int 0), .inr (1, 60, fun _ => .int 0)]
theorem cI_0 {w : WX} {H : Heap} (h : CR w w.2.2.1 (nsI w) H) : w.2.2.1.size ≤ adI w 0 0 ∧ cellOk w (adI w) σI 0 0 H := by
  refine ⟨Nat.le_add_right _ _, ?_⟩
  have hc := h.2.2 0 _ rfl
  show t_OB (w.2.2.1.size + 0) _ 4 _ H _
  refine t_OB.to hc (fun k hk => ?_)
  have hk : k < 4 := hk
  revert k
  exact fun k _ hk => by match k, hk with
    | 0, _ => rfl
    | 1, _ => rfl
    | 2, _ => rfl
    | 3, _ => rfl
    | k + 4, hk => exact absurd hk (by omega)
theorem cI_1 {w : WX} {H : Heap} (h : CR w w.2.2.1 (nsI w) H) : w.2.2.1.size ≤ adI w 1 0 ∧ cellOk w (adI w) σI 1 0 H := by
  refine ⟨Nat.le_add_right _ _, ?_⟩
  have hc := h.2.2 1 _ rfl
  show t_OB (w.2.2.1.size + 1) _ 3 _ H _
  refine t_OB.to hc (fun k hk => ?_)
  have hk : k < 3 := hk
  revert k
  exact fun k _ hk => by match k, hk with
    | 0, _ => rfl
    | 1, _ => rfl
    | 2, _ => rfl
    | k + 3, hk => exact absurd hk (by omega)
theorem cI_2 {w : WX} {H : Heap} (h : CR w w.2.2.1 (nsI w) H) : w.2.2.1.size ≤ adI w 2 0 ∧ cellOk w (adI w) σI 2 0 H := by
  refine ⟨Nat.le_add_right _ _, ?_⟩
  have hc : H[w.2.2.1.size + 2]? = some (arrV (w.2.1 2) 60 (fun _ => .null)) := h.2.2 2 _ rfl
  show H[w.2.2.1.size + 2]? = some (arrV (w.2.1 2) 60 _)
  refine hc.trans ?_
  congr 2
theorem cI_3 {w : WX} {H : Heap} (h : CR w w.2.2.1 (nsI w) H) : w.2.2.1.size ≤ adI w 3 0 ∧ cellOk w (adI w) σI 3 0 H := by
  refine ⟨Nat.le_add_right _ _, ?_⟩
  have hc := h.2.2 3 _ rfl
  show t_OB (w.2.2.1.size + 3) _ 5 _ H _
  refine t_OB.to hc (fun k hk => ?_)
  have hk : k < 5 := hk
  revert k
  exact fun k _ hk => by match k, hk with
    | 0, _ => rfl
    | 1, _ => rfl
    | 2, _ => rfl
    | 3, _ => rfl
    | 4, _ => rfl
    | k + 5, hk => exact absurd hk (by omega)
theorem cI_4 {w : WX} {H : Heap} (h : CR w w.2.2.1 (nsI w) H) : w.2.2.1.size ≤ adI w 4 0 ∧ cellOk w (adI w) σI 4 0 H := by
  refine ⟨Nat.le_add_right _ _, ?_⟩
  have hc : H[w.2.2.1.size + 4]? = some (arrV (w.2.1 0) 8 (fun _ => .int 0)) := h.2.2 4 _ rfl
  show H[w.2.2.1.size + 4]? = some (arrV (w.2.1 0) 8 _)
  refine hc.trans ?_
  congr 2
theorem cI_5 {w : WX} {H : Heap} (h : CR w w.2.2.1 (nsI w) H) : w.2.2.1.size ≤ adI w 5 0 ∧ cellOk w (adI w) σI 5 0 H := by
  refine ⟨Nat.le_add_right _ _, ?_⟩
  have hc : H[w.2.2.1.size + 5]? = some (arrV (w.2.1 0) 8 (fun _ => .int 0)) := h.2.2 5 _ rfl
  show H[w.2.2.1.size + 5]? = some (arrV (w.2.1 0) 8 _)
  refine hc.trans ?_
  congr 2
theorem cI_6 {w : WX} {H : Heap} (h : CR w w.2.2.1 (nsI w) H) : w.2.2.1.size ≤ adI w 6 0 ∧ cellOk w (adI w) σI 6 0 H := by
  refine ⟨Nat.le_add_right _ _, ?_⟩
  have hc : H[w.2.2.1.size + 6]? = some (arrV (w.2.1 0) 64 (fun _ => .int 0)) := h.2.2 6 _ rfl
  show H[w.2.2.1.size + 6]? = some (arrV (w.2.1 0) 64 _)
  refine hc.trans ?_
  congr 2
theorem cI_7 {w : WX} {H : Heap} (h : CR w w.2.2.1 (nsI w) H) : w.2.2.1.size ≤ adI w 7 0 ∧ cellOk w (adI w) σI 7 0 H := by
  refine ⟨Nat.le_add_right _ _, ?_⟩
  have hc := h.2.2 7 _ rfl
  show t_OB (w.2.2.1.size + 7) _ 6 _ H _
  refine t_OB.to hc (fun k hk => ?_)
  have hk : k < 6 := hk
  revert k
  exact fun k _ hk => by match k, hk with
    | 0, _ => rfl
    | 1, _ => rfl
    | 2, _ => rfl
    | 3, _ => rfl
    | 4, _ => rfl
    | 5, _ => rfl
    | k + 6, hk => exact absurd hk (by omega)
theorem cI_8 {w : WX} {H : Heap} (h : CR w w.2.2.1 (nsI w) H) : w.2.2.1.size ≤ adI w 8 0 ∧ cellOk w (adI w) σI 8 0 H := by
  refine ⟨Nat.le_add_right _ _, ?_⟩
  have hc : H[w.2.2.1.size + 8]? = some (arrV (w.2.1 0) 40 (updV (fun _ => .int 0) (ix 0) (.int 9))) := h.2.2 8 _ rfl
  show H[w.2.2.1.size + 8]? = some (arrV (w.2.1 0) 40 _)
  refine hc.trans ?_
  congr 2
  funext j
  match j with
  | 0 => rfl
  | 1 => rfl
  | 2 => rfl
  | 3 => rfl
  | 4 => rfl
  | 5 => rfl
  | 6 => rfl
  | 7 => rfl
  | j + 8 => rfl
theorem cI_9 {w : WX} {H : Heap} (h : CR w w.2.2.1 (nsI w) H) : w.2.2.1.size ≤ adI w 9 0 ∧ cellOk w (adI w) σI 9 0 H := by
  refine ⟨Nat.le_add_right _ _, ?_⟩
  have hc : H[w.2.2.1.size + 9]? = some (arrV (w.2.1 0) 40 (updV (fun _ => .int 0) (ix 0) (.int 9))) := h.2.2 9 _ rfl
  show H[w.2.2.1.size + 9]? = some (arrV (w.2.1 0) 40 _)
  refine hc.trans ?_
  congr 2
  funext j
  match j with
  | 0 => rfl
  | 1 => rfl
  | 2 => rfl
  | 3 => rfl
  | 4 => rfl
  | 5 => rfl
  | 6 => rfl
  | 7 => rfl
  | j + 8 => rfl
theorem cI_10 {w : WX} {H : Heap} (h : CR w w.2.2.1 (nsI w) H) : w.2.2.1.size ≤ adI w 10 0 ∧ cellOk w (adI w) σI 10 0 H := by
  refine ⟨Nat.le_add_right _ _, ?_⟩
  have hc : H[w.2.2.1.size + 10]? = some (arrV (w.2.1 0) 40 (updV (fun _ => .int 0) (ix 0) (.int 1))) := h.2.2 10 _ rfl
  show H[w.2.2.1.size + 10]? = some (arrV (w.2.1 0) 40 _)
  refine hc.trans ?_
  congr 2
  funext j
  match j with
  | 0 => rfl
  | 1 => rfl
  | 2 => rfl
  | 3 => rfl
  | 4 => rfl
  | 5 => rfl
  | 6 => rfl
  | 7 => rfl
  | j + 8 => rfl
theorem cI_11 {w : WX} {H : Heap} (h : CR w w.2.2.1 (nsI w) H) : w.2.2.1.size ≤ adI w 11 0 ∧ cellOk w (adI w) σI 11 0 H := by
  refine ⟨Nat.le_add_right _ _, ?_⟩
  have hc : H[w.2.2.1.size + 11]? = some (arrV (w.2.1 0) 40 (fun _ => .int 0)) := h.2.2 11 _ rfl
  show H[w.2.2.1.size + 11]? = some (arrV (w.2.1 0) 40 _)
  refine hc.trans ?_
  congr 2
theorem cI_12 {w : WX} {H : Heap} (h : CR w w.2.2.1 (nsI w) H) : w.2.2.1.size ≤ adI w 12 0 ∧ cellOk w (adI w) σI 12 0 H := by
  refine ⟨Nat.le_add_right _ _, ?_⟩
  have hc := h.2.2 12 _ rfl
  show t_OB (w.2.2.1.size + 12) _ 5 _ H _
  refine t_OB.to hc (fun k hk => ?_)
  have hk : k < 5 := hk
  revert k
  exact fun k _ hk => by match k, hk with
    | 0, _ => rfl
    | 1, _ => rfl
    | 2, _ => rfl
    | 3, _ => rfl
    | 4, _ => rfl
    | k + 5, hk => exact absurd hk (by omega)
theorem cI_13 {w : WX} {H : Heap} (h : CR w w.2.2.1 (nsI w) H) : w.2.2.1.size ≤ adI w 13 0 ∧ cellOk w (adI w) σI 13 0 H := by
  refine ⟨Nat.le_add_right _ _, ?_⟩
  have hc : H[w.2.2.1.size + 13]? = some (arrV (w.2.1 3) 12 (fun _ => .null)) := h.2.2 13 _ rfl
  show H[w.2.2.1.size + 13]? = some (arrV (w.2.1 3) 12 _)
  refine hc.trans ?_
  congr 2
theorem cI_14 {w : WX} {H : Heap} (h : CR w w.2.2.1 (nsI w) H) : w.2.2.1.size ≤ adI w 14 0 ∧ cellOk w (adI w) σI 14 0 H := by
  refine ⟨Nat.le_add_right _ _, ?_⟩
  have hc : H[w.2.2.1.size + 14]? = some (arrV (w.2.1 0) 500 (fun _ => .int 0)) := h.2.2 14 _ rfl
  show H[w.2.2.1.size + 14]? = some (arrV (w.2.1 0) 500 _)
  refine hc.trans ?_
  congr 2
theorem cI_15 {w : WX} {H : Heap} (h : CR w w.2.2.1 (nsI w) H) : w.2.2.1.size ≤ adI w 15 0 ∧ cellOk w (adI w) σI 15 0 H := by
  refine ⟨Nat.le_add_right _ _, ?_⟩
  have hc : H[w.2.2.1.size + 15]? = some (arrV (w.2.1 0) 12 (fun _ => .int 0)) := h.2.2 15 _ rfl
  show H[w.2.2.1.size + 15]? = some (arrV (w.2.1 0) 12 _)
  refine hc.trans ?_
  congr 2
theorem cI_25 {w : WX} {H : Heap} (h : CR w w.2.2.1 (nsI w) H) : w.2.2.1.size ≤ adI w 25 0 ∧ cellOk w (adI w) σI 25 0 H := by
  refine ⟨Nat.le_add_right _ _, ?_⟩
  have hc := h.2.2 16 _ rfl
  show t_OB (w.2.2.1.size + 16) _ 49 _ H _
  refine t_OB.to hc (fun k hk => ?_)
  have hk : k < 49 := hk
  revert k
  exact fun k _ hk => by match k, hk with
    | 0, _ => rfl
    | 1, _ => rfl
    | 2, _ => rfl
    | 3, _ => rfl
    | 4, _ => rfl
    | 5, _ => rfl
    | 6, _ => rfl
    | 7, _ => rfl
    | 8, _ => rfl
    | 9, _ => rfl
    | 10, _ => rfl
    | 11, _ => rfl
    | 12, _ => rfl
    | 13, _ => rfl
    | 14, _ => rfl
    | 15, _ => rfl
    | 16, _ => rfl
    | 17, _ => rfl
    | 18, _ => rfl
    | 19, _ => rfl
    | 20, _ => rfl
    | 21, _ => rfl
    | 22, _ => rfl
    | 23, _ => rfl
    | 24, _ => rfl
    | 25, _ => rfl
    | 26, _ => rfl
    | 27, _ => rfl
    | 28, _ => rfl
    | 29, _ => rfl
    | 30, _ => rfl
    | 31, _ => rfl
    | 32, _ => rfl
    | 33, _ => rfl
    | 34, _ => rfl
    | 35, _ => rfl
    | 36, _ => rfl
    | 37, _ => rfl
    | 38, _ => rfl
    | 39, _ => rfl
    | 40, _ => rfl
    | 41, _ => rfl
    | 42, _ => rfl
    | 43, _ => rfl
    | 44, _ => rfl
    | 45, _ => rfl
    | 46, _ => rfl
    | 47, _ => rfl
    | 48, _ => rfl
    | k + 49, hk => exact absurd hk (by omega)
theorem cI_40 {w : WX} {H : Heap} (h : CR w w.2.2.1 (nsI w) H) : w.2.2.1.size ≤ adI w 40 0 ∧ cellOk w (adI w) σI 40 0 H := by
  refine ⟨Nat.le_add_right _ _, ?_⟩
  have hc : H[w.2.2.1.size + 17]? = some (arrV (w.2.1 0) 8 (updV (updV (updV (updV (updV (updV (updV (updV (fun _ => .int 0) (ix 0) (.int 1)) (ix 1) (.int 0)) (ix 2) (.int 1)) (ix 3) (.int 1)) (ix 4) (.int (-1))) (ix 5) (.int 0)) (ix 6) (.int (-1))) (ix 7) (.int (-1)))) := h.2.2 17 _ rfl
  show H[w.2.2.1.size + 17]? = some (arrV (w.2.1 0) 8 _)
  refine hc.trans ?_
  congr 2
  funext j
  match j with
  | 0 => rfl
  | 1 => rfl
  | 2 => rfl
  | 3 => rfl
  | 4 => rfl
  | 5 => rfl
  | 6 => rfl
  | 7 => rfl
  | j + 8 => rfl
theorem cI_41 {w : WX} {H : Heap} (h : CR w w.2.2.1 (nsI w) H) : w.2.2.1.size ≤ adI w 41 0 ∧ cellOk w (adI w) σI 41 0 H := by
  refine ⟨Nat.le_add_right _ _, ?_⟩
  have hc : H[w.2.2.1.size + 18]? = some (arrV (w.2.1 0) 8 (updV (updV (updV (updV (updV (updV (updV (updV (fun _ => .int 0) (ix 0) (.int 0)) (ix 1) (.int 1)) (ix 2) (.int 1)) (ix 3) (.int (-1))) (ix 4) (.int 0)) (ix 5) (.int (-1))) (ix 6) (.int (-1))) (ix 7) (.int 1))) := h.2.2 18 _ rfl
  show H[w.2.2.1.size + 18]? = some (arrV (w.2.1 0) 8 _)
  refine hc.trans ?_
  congr 2
  funext j
  match j with
  | 0 => rfl
  | 1 => rfl
  | 2 => rfl
  | 3 => rfl
  | 4 => rfl
  | 5 => rfl
  | 6 => rfl
  | 7 => rfl
  | j + 8 => rfl
theorem cI_42 {w : WX} {H : Heap} (h : CR w w.2.2.1 (nsI w) H) : w.2.2.1.size ≤ adI w 42 0 ∧ cellOk w (adI w) σI 42 0 H := by
  refine ⟨Nat.le_add_right _ _, ?_⟩
  have hc : H[w.2.2.1.size + 19]? = some (arrV (w.2.1 0) 8 (updV (updV (updV (updV (updV (updV (updV (updV (fun _ => .int 0) (ix 0) (.int 0)) (ix 1) (.int 2)) (ix 2) (.int 1)) (ix 3) (.int 7)) (ix 4) (.int 4)) (ix 5) (.int 6)) (ix 6) (.int 5)) (ix 7) (.int 3))) := h.2.2 19 _ rfl
  show H[w.2.2.1.size + 19]? = some (arrV (w.2.1 0) 8 _)
  refine hc.trans ?_
  congr 2
  funext j
  match j with
  | 0 => rfl
  | 1 => rfl
  | 2 => rfl
  | 3 => rfl
  | 4 => rfl
  | 5 => rfl
  | 6 => rfl
  | 7 => rfl
  | j + 8 => rfl
theorem cI_43 {w : WX} {H : Heap} (h : CR w w.2.2.1 (nsI w) H) : w.2.2.1.size ≤ adI w 43 0 ∧ cellOk w (adI w) σI 43 0 H := by
  refine ⟨Nat.le_add_right _ _, ?_⟩
  have hc : H[w.2.2.1.size + 20]? = some (arrV (w.2.1 0) 8 (updV (updV (updV (updV (updV (updV (updV (updV (fun _ => .int 0) (ix 0) (.int 1)) (ix 1) (.int 4)) (ix 2) (.int 7)) (ix 3) (.int 2)) (ix 4) (.int 5)) (ix 5) (.int 0)) (ix 6) (.int 3)) (ix 7) (.int 6))) := h.2.2 20 _ rfl
  show H[w.2.2.1.size + 20]? = some (arrV (w.2.1 0) 8 _)
  refine hc.trans ?_
  congr 2
  funext j
  match j with
  | 0 => rfl
  | 1 => rfl
  | 2 => rfl
  | 3 => rfl
  | 4 => rfl
  | 5 => rfl
  | 6 => rfl
  | 7 => rfl
  | j + 8 => rfl
theorem cI_44 {w : WX} {H : Heap} (h : CR w w.2.2.1 (nsI w) H) : w.2.2.1.size ≤ adI w 44 0 ∧ cellOk w (adI w) σI 44 0 H := by
  refine ⟨Nat.le_add_right _ _, ?_⟩
  have hc : H[w.2.2.1.size + 21]? = some (arrV (w.2.1 0) 8 (updV (updV (updV (updV (updV (updV (updV (updV (fun _ => .int 0) (ix 0) (.int 4)) (ix 1) (.int 1)) (ix 2) (.int 7)) (ix 3) (.int 6)) (ix 4) (.int 0)) (ix 5) (.int 5)) (ix 6) (.int 3)) (ix 7) (.int 2))) := h.2.2 21 _ rfl
  show H[w.2.2.1.size + 21]? = some (arrV (w.2.1 0) 8 _)
  refine hc.trans ?_
  congr 2
  funext j
  match j with
  | 0 => rfl
  | 1 => rfl
  | 2 => rfl
  | 3 => rfl
  | 4 => rfl
  | 5 => rfl
  | 6 => rfl
  | 7 => rfl
  | j + 8 => rfl
theorem cI_45 {w : WX} {H : Heap} (h : CR w w.2.2.1 (nsI w) H) : w.2.2.1.size ≤ adI w 45 0 ∧ cellOk w (adI w) σI 45 0 H := by
  refine ⟨Nat.le_add_right _ _, ?_⟩
  have hc : H[w.2.2.1.size + 22]? = some (arrV (w.2.1 0) 8 (updV (updV (updV (updV (updV (updV (updV (updV (fun _ => .int 0) (ix 0) (.int 1)) (ix 1) (.int 0)) (ix 2) (.int 2)) (ix 3) (.int 7)) (ix 4) (.int 5)) (ix 5) (.int 4)) (ix 6) (.int 6)) (ix 7) (.int 3))) := h.2.2 22 _ rfl
  show H[w.2.2.1.size + 22]? = some (arrV (w.2.1 0) 8 _)
  refine hc.trans ?_
  congr 2
  funext j
  match j with
  | 0 => rfl
  | 1 => rfl
  | 2 => rfl
  | 3 => rfl
  | 4 => rfl
  | 5 => rfl
  | 6 => rfl
  | 7 => rfl
  | j + 8 => rfl
theorem cI_47 {w : WX} {H : Heap} (h : CR w w.2.2.1 (nsI w) H) : w.2.2.1.size ≤ adI w 47 0 ∧ cellOk w (adI w) σI 47 0 H := by
  refine ⟨Nat.le_add_right _ _, ?_⟩
  have hc : H[w.2.2.1.size + 23]? = some (arrV (w.2.1 1) 60 (fun _ => .int 0)) := h.2.2 23 _ rfl
  show H[w.2.2.1.size + 23]? = some (arrV (w.2.1 1) 60 _)
  refine hc.trans ?_
  congr 2
theorem cI_48 {w : WX} {H : Heap} (h : CR w w.2.2.1 (nsI w) H) : w.2.2.1.size ≤ adI w 48 0 ∧ cellOk w (adI w) σI 48 0 H := by
  refine ⟨Nat.le_add_right _ _, ?_⟩
  have hc : H[w.2.2.1.size + 24]? = some (arrV (w.2.1 0) 480 (fun _ => .int 0)) := h.2.2 24 _ rfl
  show H[w.2.2.1.size + 24]? = some (arrV (w.2.1 0) 480 _)
  refine hc.trans ?_
  congr 2
theorem cI_49 {w : WX} {H : Heap} (h : CR w w.2.2.1 (nsI w) H) : w.2.2.1.size ≤ adI w 49 0 ∧ cellOk w (adI w) σI 49 0 H := by
  refine ⟨Nat.le_add_right _ _, ?_⟩
  have hc : H[w.2.2.1.size + 25]? = some (arrV (w.2.1 0) 60 (fun _ => .int 0)) := h.2.2 25 _ rfl
  show H[w.2.2.1.size + 25]? = some (arrV (w.2.1 0) 60 _)
  refine hc.trans ?_
  congr 2
theorem cI_50 {w : WX} {H : Heap} (h : CR w w.2.2.1 (nsI w) H) : w.2.2.1.size ≤ adI w 50 0 ∧ cellOk w (adI w) σI 50 0 H := by
  refine ⟨Nat.le_add_right _ _, ?_⟩
  have hc : H[w.2.2.1.size + 26]? = some (arrV (w.2.1 0) 60 (fun _ => .int 0)) := h.2.2 26 _ rfl
  show H[w.2.2.1.size + 26]? = some (arrV (w.2.1 0) 60 _)
  refine hc.trans ?_
  congr 2
theorem cI_51 {w : WX} {H : Heap} (h : CR w w.2.2.1 (nsI w) H) : w.2.2.1.size ≤ adI w 51 0 ∧ cellOk w (adI w) σI 51 0 H := by
  refine ⟨Nat.le_add_right _ _, ?_⟩
  have hc : H[w.2.2.1.size + 27]? = some (arrV (w.2.1 1) 60 (fun _ => .int 0)) := h.2.2 27 _ rfl
  show H[w.2.2.1.size + 27]? = some (arrV (w.2.1 1) 60 _)
  refine hc.trans ?_
  congr 2
theorem cI_52 {w : WX} {H : Heap} (h : CR w w.2.2.1 (nsI w) H) : w.2.2.1.size ≤ adI w 52 0 ∧ cellOk w (adI w) σI 52 0 H := by
  refine ⟨Nat.le_add_right _ _, ?_⟩
  have hc : H[w.2.2.1.size + 28]? = some (arrV (w.2.1 0) 60 (fun _ => .int 0)) := h.2.2 28 _ rfl
  show H[w.2.2.1.size + 28]? = some (arrV (w.2.1 0) 60 _)
  refine hc.trans ?_
  congr 2
theorem cI_53 {w : WX} {H : Heap} (h : CR w w.2.2.1 (nsI w) H) : w.2.2.1.size ≤ adI w 53 0 ∧ cellOk w (adI w) σI 53 0 H := by
  refine ⟨Nat.le_add_right _ _, ?_⟩
  have hc : H[w.2.2.1.size + 29]? = some (arrV (w.2.1 0) 8 (fun _ => .int 0)) := h.2.2 29 _ rfl
  show H[w.2.2.1.size + 29]? = some (arrV (w.2.1 0) 8 _)
  refine hc.trans ?_
  congr 2
theorem cI_55 {w : WX} {H : Heap} (h : CR w w.2.2.1 (nsI w) H) : w.2.2.1.size ≤ adI w 55 0 ∧ cellOk w (adI w) σI 55 0 H := by
  refine ⟨Nat.le_add_right _ _, ?_⟩
  have hc : H[w.2.2.1.size + 30]? = some (arrV (w.2.1 0) 32 (fun _ => .int 0)) := h.2.2 30 _ rfl
  show H[w.2.2.1.size + 30]? = some (arrV (w.2.1 0) 32 _)
  refine hc.trans ?_
  congr 2
theorem cI_56 {w : WX} {H : Heap} (h : CR w w.2.2.1 (nsI w) H) : w.2.2.1.size ≤ adI w 56 0 ∧ cellOk w (adI w) σI 56 0 H := by
  refine ⟨Nat.le_add_right _ _, ?_⟩
  have hc : H[w.2.2.1.size + 31]? = some (arrV (w.2.1 0) 32 (fun _ => .int 0)) := h.2.2 31 _ rfl
  show H[w.2.2.1.size + 31]? = some (arrV (w.2.1 0) 32 _)
  refine hc.trans ?_
  congr 2
theorem cI_58 {w : WX} {H : Heap} (h : CR w w.2.2.1 (nsI w) H) : w.2.2.1.size ≤ adI w 58 0 ∧ cellOk w (adI w) σI 58 0 H := by
  refine ⟨Nat.le_add_right _ _, ?_⟩
  have hc : H[w.2.2.1.size + 32]? = some (arrV (w.2.1 0) 8 (fun _ => .int 0)) := h.2.2 32 _ rfl
  show H[w.2.2.1.size + 32]? = some (arrV (w.2.1 0) 8 _)
  refine hc.trans ?_
  congr 2
theorem cI_59 {w : WX} {H : Heap} (h : CR w w.2.2.1 (nsI w) H) : w.2.2.1.size ≤ adI w 59 0 ∧ cellOk w (adI w) σI 59 0 H := by
  refine ⟨Nat.le_add_right _ _, ?_⟩
  have hc : H[w.2.2.1.size + 33]? = some (arrV (w.2.1 0) 8 (fun _ => .int 0)) := h.2.2 33 _ rfl
  show H[w.2.2.1.size + 33]? = some (arrV (w.2.1 0) 8 _)
  refine hc.trans ?_
  congr 2
theorem cI_60 {w : WX} {H : Heap} (h : CR w w.2.2.1 (nsI w) H) : w.2.2.1.size ≤ adI w 60 0 ∧ cellOk w (adI w) σI 60 0 H := by
  refine ⟨Nat.le_add_right _ _, ?_⟩
  have hc : H[w.2.2.1.size + 34]? = some (arrV (w.2.1 0) 8 (fun _ => .int 0)) := h.2.2 34 _ rfl
  show H[w.2.2.1.size + 34]? = some (arrV (w.2.1 0) 8 _)
  refine hc.trans ?_
  congr 2
theorem cI_61 {w : WX} {H : Heap} (h : CR w w.2.2.1 (nsI w) H) : w.2.2.1.size ≤ adI w 61 0 ∧ cellOk w (adI w) σI 61 0 H := by
  refine ⟨Nat.le_add_right _ _, ?_⟩
  have hc : H[w.2.2.1.size + 35]? = some (arrV (w.2.1 0) 8 (fun _ => .int 0)) := h.2.2 35 _ rfl
  show H[w.2.2.1.size + 35]? = some (arrV (w.2.1 0) 8 _)
  refine hc.trans ?_
  congr 2
theorem cI_62 {w : WX} {H : Heap} (h : CR w w.2.2.1 (nsI w) H) : w.2.2.1.size ≤ adI w 62 0 ∧ cellOk w (adI w) σI 62 0 H := by
  refine ⟨Nat.le_add_right _ _, ?_⟩
  have hc : H[w.2.2.1.size + 36]? = some (arrV (w.2.1 0) 8 (fun _ => .int 0)) := h.2.2 36 _ rfl
  show H[w.2.2.1.size + 36]? = some (arrV (w.2.1 0) 8 _)
  refine hc.trans ?_
  congr 2
theorem cI_64 {w : WX} {H : Heap} (h : CR w w.2.2.1 (nsI w) H) : w.2.2.1.size ≤ adI w 64 0 ∧ cellOk w (adI w) σI 64 0 H := by
  refine ⟨Nat.le_add_right _ _, ?_⟩
  have hc : H[w.2.2.1.size + 37]? = some (arrV (w.2.1 0) 8 (fun _ => .int 0)) := h.2.2 37 _ rfl
  show H[w.2.2.1.size + 37]? = some (arrV (w.2.1 0) 8 _)
  refine hc.trans ?_
  congr 2
theorem cI_65 {w : WX} {H : Heap} (h : CR w w.2.2.1 (nsI w) H) : w.2.2.1.size ≤ adI w 65 0 ∧ cellOk w (adI w) σI 65 0 H := by
  refine ⟨Nat.le_add_right _ _, ?_⟩
  have hc : H[w.2.2.1.size + 38]? = some (arrV (w.2.1 0) 8 (fun _ => .int 0)) := h.2.2 38 _ rfl
  show H[w.2.2.1.size + 38]? = some (arrV (w.2.1 0) 8 _)
  refine hc.trans ?_
  congr 2
theorem cI_66 {w : WX} {H : Heap} (h : CR w w.2.2.1 (nsI w) H) : w.2.2.1.size ≤ adI w 66 0 ∧ cellOk w (adI w) σI 66 0 H := by
  refine ⟨Nat.le_add_right _ _, ?_⟩
  have hc : H[w.2.2.1.size + 39]? = some (arrV (w.2.1 0) 64 (fun _ => .int 0)) := h.2.2 39 _ rfl
  show H[w.2.2.1.size + 39]? = some (arrV (w.2.1 0) 64 _)
  refine hc.trans ?_
  congr 2
theorem cI_70 {w : WX} {H : Heap} (h : CR w w.2.2.1 (nsI w) H) : w.2.2.1.size ≤ adI w 70 0 ∧ cellOk w (adI w) σI 70 0 H := by
  refine ⟨Nat.le_add_right _ _, ?_⟩
  have hc : H[w.2.2.1.size + 40]? = some (arrV (w.2.1 0) 8 (fun _ => .int 0)) := h.2.2 40 _ rfl
  show H[w.2.2.1.size + 40]? = some (arrV (w.2.1 0) 8 _)
  refine hc.trans ?_
  congr 2
theorem cI_71 {w : WX} {H : Heap} (h : CR w w.2.2.1 (nsI w) H) : w.2.2.1.size ≤ adI w 71 0 ∧ cellOk w (adI w) σI 71 0 H := by
  refine ⟨Nat.le_add_right _ _, ?_⟩
  have hc : H[w.2.2.1.size + 41]? = some (arrV (w.2.1 0) 8 (fun _ => .int 0)) := h.2.2 41 _ rfl
  show H[w.2.2.1.size + 41]? = some (arrV (w.2.1 0) 8 _)
  refine hc.trans ?_
  congr 2
theorem cI_72 {w : WX} {H : Heap} (h : CR w w.2.2.1 (nsI w) H) : w.2.2.1.size ≤ adI w 72 0 ∧ cellOk w (adI w) σI 72 0 H := by
  refine ⟨Nat.le_add_right _ _, ?_⟩
  have hc : H[w.2.2.1.size + 42]? = some (arrV (w.2.1 0) 8 (fun _ => .int 0)) := h.2.2 42 _ rfl
  show H[w.2.2.1.size + 42]? = some (arrV (w.2.1 0) 8 _)
  refine hc.trans ?_
  congr 2
theorem cI_73 {w : WX} {H : Heap} (h : CR w w.2.2.1 (nsI w) H) : w.2.2.1.size ≤ adI w 73 0 ∧ cellOk w (adI w) σI 73 0 H := by
  refine ⟨Nat.le_add_right _ _, ?_⟩
  have hc : H[w.2.2.1.size + 43]? = some (arrV (w.2.1 0) 8 (fun _ => .int 0)) := h.2.2 43 _ rfl
  show H[w.2.2.1.size + 43]? = some (arrV (w.2.1 0) 8 _)
  refine hc.trans ?_
  congr 2
theorem cI_74 {w : WX} {H : Heap} (h : CR w w.2.2.1 (nsI w) H) : w.2.2.1.size ≤ adI w 74 0 ∧ cellOk w (adI w) σI 74 0 H := by
  refine ⟨Nat.le_add_right _ _, ?_⟩
  have hc : H[w.2.2.1.size + 44]? = some (arrV (w.2.1 0) 8 (fun _ => .int 0)) := h.2.2 44 _ rfl
  show H[w.2.2.1.size + 44]? = some (arrV (w.2.1 0) 8 _)
  refine hc.trans ?_
  congr 2
theorem cI_76 {w : WX} {H : Heap} (h : CR w w.2.2.1 (nsI w) H) : w.2.2.1.size ≤ adI w 76 0 ∧ cellOk w (adI w) σI 76 0 H := by
  refine ⟨Nat.le_add_right _ _, ?_⟩
  have hc : H[w.2.2.1.size + 45]? = some (arrV (w.2.1 0) 40 (fun _ => .int 0)) := h.2.2 45 _ rfl
  show H[w.2.2.1.size + 45]? = some (arrV (w.2.1 0) 40 _)
  refine hc.trans ?_
  congr 2
theorem cI_77 {w : WX} {H : Heap} (h : CR w w.2.2.1 (nsI w) H) : w.2.2.1.size ≤ adI w 77 0 ∧ cellOk w (adI w) σI 77 0 H := by
  refine ⟨Nat.le_add_right _ _, ?_⟩
  have hc : H[w.2.2.1.size + 46]? = some (arrV (w.2.1 0) 40 (fun _ => .int 0)) := h.2.2 46 _ rfl
  show H[w.2.2.1.size + 46]? = some (arrV (w.2.1 0) 40 _)
  refine hc.trans ?_
  congr 2
theorem cI_78 {w : WX} {H : Heap} (h : CR w w.2.2.1 (nsI w) H) : w.2.2.1.size ≤ adI w 78 0 ∧ cellOk w (adI w) σI 78 0 H := by
  refine ⟨Nat.le_add_right _ _, ?_⟩
  have hc : H[w.2.2.1.size + 47]? = some (arrV (w.2.1 0) 40 (fun _ => .int 0)) := h.2.2 47 _ rfl
  show H[w.2.2.1.size + 47]? = some (arrV (w.2.1 0) 40 _)
  refine hc.trans ?_
  congr 2
theorem cI_79 {w : WX} {H : Heap} (h : CR w w.2.2.1 (nsI w) H) : w.2.2.1.size ≤ adI w 79 0 ∧ cellOk w (adI w) σI 79 0 H := by
  refine ⟨Nat.le_add_right _ _, ?_⟩
  have hc : H[w.2.2.1.size + 48]? = some (arrV (w.2.1 0) 40 (fun _ => .int 0)) := h.2.2 48 _ rfl
  show H[w.2.2.1.size + 48]? = some (arrV (w.2.1 0) 40 _)
  refine hc.trans ?_
  congr 2
theorem cI_80 {w : WX} {H : Heap} (h : CR w w.2.2.1 (nsI w) H) : w.2.2.1.size ≤ adI w 80 0 ∧ cellOk w (adI w) σI 80 0 H := by
  refine ⟨Nat.le_add_right _ _, ?_⟩
  have hc : H[w.2.2.1.size + 49]? = some (arrV (w.2.1 1) 8 (fun _ => .int 0)) := h.2.2 49 _ rfl
  show H[w.2.2.1.size + 49]? = some (arrV (w.2.1 1) 8 _)
  refine hc.trans ?_
  congr 2
theorem cI_82 {w : WX} {H : Heap} (h : CR w w.2.2.1 (nsI w) H) : w.2.2.1.size ≤ adI w 82 0 ∧ cellOk w (adI w) σI 82 0 H := by
  refine ⟨Nat.le_add_right _ _, ?_⟩
  have hc : H[w.2.2.1.size + 50]? = some (arrV (w.2.1 0) 12 (fun _ => .int 0)) := h.2.2 50 _ rfl
  show H[w.2.2.1.size + 50]? = some (arrV (w.2.1 0) 12 _)
  refine hc.trans ?_
  congr 2
theorem cI_83 {w : WX} {H : Heap} (h : CR w w.2.2.1 (nsI w) H) : w.2.2.1.size ≤ adI w 83 0 ∧ cellOk w (adI w) σI 83 0 H := by
  refine ⟨Nat.le_add_right _ _, ?_⟩
  have hc : H[w.2.2.1.size + 51]? = some (arrV (w.2.1 0) 240 (fun _ => .int 0)) := h.2.2 51 _ rfl
  show H[w.2.2.1.size + 51]? = some (arrV (w.2.1 0) 240 _)
  refine hc.trans ?_
  congr 2
theorem cI_84 {w : WX} {H : Heap} (h : CR w w.2.2.1 (nsI w) H) : w.2.2.1.size ≤ adI w 84 0 ∧ cellOk w (adI w) σI 84 0 H := by
  refine ⟨Nat.le_add_right _ _, ?_⟩
  have hc : H[w.2.2.1.size + 52]? = some (arrV (w.2.1 1) 240 (fun _ => .int 0)) := h.2.2 52 _ rfl
  show H[w.2.2.1.size + 52]? = some (arrV (w.2.1 1) 240 _)
  refine hc.trans ?_
  congr 2
theorem cI_85 {w : WX} {H : Heap} (h : CR w w.2.2.1 (nsI w) H) : w.2.2.1.size ≤ adI w 85 0 ∧ cellOk w (adI w) σI 85 0 H := by
  refine ⟨Nat.le_add_right _ _, ?_⟩
  have hc : H[w.2.2.1.size + 53]? = some (arrV (w.2.1 0) 12 (fun _ => .int 0)) := h.2.2 53 _ rfl
  show H[w.2.2.1.size + 53]? = some (arrV (w.2.1 0) 12 _)
  refine hc.trans ?_
  congr 2
theorem cI_86 {w : WX} {H : Heap} (h : CR w w.2.2.1 (nsI w) H) : w.2.2.1.size ≤ adI w 86 0 ∧ cellOk w (adI w) σI 86 0 H := by
  refine ⟨Nat.le_add_right _ _, ?_⟩
  have hc : H[w.2.2.1.size + 54]? = some (arrV (w.2.1 1) 12 (fun _ => .int 0)) := h.2.2 54 _ rfl
  show H[w.2.2.1.size + 54]? = some (arrV (w.2.1 1) 12 _)
  refine hc.trans ?_
  congr 2
theorem cI_87 {w : WX} {H : Heap} (h : CR w w.2.2.1 (nsI w) H) : w.2.2.1.size ≤ adI w 87 0 ∧ cellOk w (adI w) σI 87 0 H := by
  refine ⟨Nat.le_add_right _ _, ?_⟩
  have hc : H[w.2.2.1.size + 55]? = some (arrV (w.2.1 1) 60 (fun _ => .int 0)) := h.2.2 55 _ rfl
  show H[w.2.2.1.size + 55]? = some (arrV (w.2.1 1) 60 _)
  refine hc.trans ?_
  congr 2
theorem cI_88 {w : WX} {H : Heap} (h : CR w w.2.2.1 (nsI w) H) : w.2.2.1.size ≤ adI w 88 0 ∧ cellOk w (adI w) σI 88 0 H := by
  refine ⟨Nat.le_add_right _ _, ?_⟩
  have hc : H[w.2.2.1.size + 56]? = some (arrV (w.2.1 1) 60 (fun _ => .int 0)) := h.2.2 56 _ rfl
  show H[w.2.2.1.size + 56]? = some (arrV (w.2.1 1) 60 _)
  refine hc.trans ?_
  congr 2
def regsI : List Nat := [0, 1, 2, 3, 4, 5, 6, 7, 8, 9, 10, 11, 12, 13, 14, 15, 25, 40, 41, 42, 43, 44, 45, 47, 48, 49, 50, 51, 52, 53, 55, 56, 58, 59, 60, 61, 62, 64, 65, 66, 70, 71, 72, 73, 74, 76, 77, 78, 79, 80, 82, 83, 84, 85, 86, 87, 88]
theorem regsI_all : ∀ r, r < 89 → (rg r).isSome = true → (r < 16 ∨ ¬ r < 25) → r ∈ regsI := by decide +kernel
theorem regsI_inj : ∀ r ∈ regsI, ∀ r' ∈ regsI, (posT[r]?).getD 0 = (posT[r']?).getD 0 → r = r' := by decide +kernel
theorem galI {r i : Nat} (h : gal σI r i) : r ∈ regsI ∧ i = 0 := by
  have hr : r < 89 := by
    rcases Nat.lt_or_ge r 89 with q | q
    · exact q
    · exfalso
      have h1 := h.1
      have : rgT[r]? = none := List.getElem?_eq_none (by show 89 ≤ r; exact q)
      rw [rg, this] at h1
      cases h1
  have h2 := h.2
  by_cases h3 : r < 16
  · rw [if_pos h3] at h2
    exact ⟨regsI_all r hr h.1 (Or.inl h3), h2⟩
  · rw [if_neg h3] at h2
    by_cases h4 : r < 22
    · rw [if_pos h4] at h2
      exact absurd h2 (Nat.not_lt_zero _)
    · rw [if_neg h4] at h2
      by_cases h5 : r < 25
      · rw [if_pos h5] at h2
        exact absurd h2 (Nat.not_lt_zero _)
      · rw [if_neg h5] at h2
        exact ⟨regsI_all r hr h.1 (Or.inr h5), h2⟩
theorem cI_all {w : WX} {H : Heap} (h : CR w w.2.2.1 (nsI w) H) : ∀ r ∈ regsI, w.2.2.1.size ≤ adI w r 0 ∧ cellOk w (adI w) σI r 0 H := List.forall_mem_cons.mpr ⟨cI_0 h, List.forall_mem_cons.mpr ⟨cI_1 h, List.forall_mem_cons.mpr ⟨cI_2 h, List.forall_mem_cons.mpr ⟨cI_3 h, List.forall_mem_cons.mpr ⟨cI_4 h, List.forall_mem_cons.mpr ⟨cI_5 h, List.forall_mem_cons.mpr ⟨cI_6 h, List.forall_mem_cons.mpr ⟨cI_7 h, List.forall_mem_cons.mpr ⟨cI_8 h, List.forall_mem_cons.mpr ⟨cI_9 h, List.forall_mem_cons.mpr ⟨cI_10 h, List.forall_mem_cons.mpr ⟨cI_11 h, List.forall_mem_cons.mpr ⟨cI_12 h, List.forall_mem_cons.mpr ⟨cI_13 h, List.forall_mem_cons.mpr ⟨cI_14 h, List.forall_mem_cons.mpr ⟨cI_15 h, List.forall_mem_cons.mpr ⟨cI_25 h, List.forall_mem_cons.mpr ⟨cI_40 h, List.forall_mem_cons.mpr ⟨cI_41 h, List.forall_mem_cons.mpr ⟨cI_42 h, List.forall_mem_cons.mpr ⟨cI_43 h, List.forall_mem_cons.mpr ⟨cI_44 h, List.forall_mem_cons.mpr ⟨cI_45 h, List.forall_mem_cons.mpr ⟨cI_47 h, List.forall_mem_cons.mpr ⟨cI_48 h, List.forall_mem_cons.mpr ⟨cI_49 h, List.forall_mem_cons.mpr ⟨cI_50 h, List.forall_mem_cons.mpr ⟨cI_51 h, List.forall_mem_cons.mpr ⟨cI_52 h, List.forall_mem_cons.mpr ⟨cI_53 h, List.forall_mem_cons.mpr ⟨cI_55 h, List.forall_mem_cons.mpr ⟨cI_56 h, List.forall_mem_cons.mpr ⟨cI_58 h, List.forall_mem_cons.mpr ⟨cI_59 h, List.forall_mem_cons.mpr ⟨cI_60 h, List.forall_mem_cons.mpr ⟨cI_61 h, List.forall_mem_cons.mpr ⟨cI_62 h, List.forall_mem_cons.mpr ⟨cI_64 h, List.forall_mem_cons.mpr ⟨cI_65 h, List.forall_mem_cons.mpr ⟨cI_66 h, List.forall_mem_cons.mpr ⟨cI_70 h, List.forall_mem_cons.mpr ⟨cI_71 h, List.forall_mem_cons.mpr ⟨cI_72 h, List.forall_mem_cons.mpr ⟨cI_73 h, List.forall_mem_cons.mpr ⟨cI_74 h, List.forall_mem_cons.mpr ⟨cI_76 h, List.forall_mem_cons.mpr ⟨cI_77 h, List.forall_mem_cons.mpr ⟨cI_78 h, List.forall_mem_cons.mpr ⟨cI_79 h, List.forall_mem_cons.mpr ⟨cI_80 h, List.forall_mem_cons.mpr ⟨cI_82 h, List.forall_mem_cons.mpr ⟨cI_83 h, List.forall_mem_cons.mpr ⟨cI_84 h, List.forall_mem_cons.mpr ⟨cI_85 h, List.forall_mem_cons.mpr ⟨cI_86 h, List.forall_mem_cons.mpr ⟨cI_87 h, List.forall_mem_cons.mpr ⟨cI_88 h, fun _ h => absurd h List.not_mem_nil⟩⟩⟩⟩⟩⟩⟩⟩⟩⟩⟩⟩⟩⟩⟩⟩⟩⟩⟩⟩⟩⟩⟩⟩⟩⟩⟩⟩⟩⟩⟩⟩⟩⟩⟩⟩⟩⟩⟩⟩⟩⟩⟩⟩⟩⟩⟩⟩⟩⟩⟩⟩⟩⟩⟩⟩⟩
theorem RelI {w : WX} {H : Heap} (h : CR w w.2.2.1 (nsI w) H) : Rel w (adI w) σI H := by
  refine ⟨by rw [h.1]; exact Nat.le_add_right _ _, h.2.1, fun r i hg => ?_, fun r i r' i' hg hg' he => ?_, fun k hk => ?_⟩
  · obtain ⟨h1, rfl⟩ := galI hg
    exact cI_all h r h1
  · obtain ⟨h1, rfl⟩ := galI hg
    obtain ⟨h2, rfl⟩ := galI hg'
    have b1 : r < 89 := (by decide +kernel : ∀ r ∈ regsI, r < 89) r h1
    have b2 : r' < 89 := (by decide +kernel : ∀ r ∈ regsI, r < 89) r' h2
    unfold adI at he
    rw [if_neg (by omega), if_neg (by omega)] at he
    exact ⟨regsI_inj r h1 r' h2 (by omega), rfl⟩
  · unfold adI
    rw [if_pos (by omega), show 100 + k - 100 = k by omega]
/-- the model's constructor: behind it all cells stand, and its last lines have run -/
theorem md_init {d : Nat} {σ1 : SS} (hσ : f_X8_init_539 σI = some ((), σ1)) (l : Launch) (w : WX) : Met l mi_X8_init.1 [.code mi_X8_init.1 mi_X8_init.2.1 mi_X8_init.2.2.1 mi_X8_init.2.2.2] { frames := d + 2, cells := 40, slots := 1864, locals := 40 * (d + 2) } (va_Pc [.ref (w.2.2.1.size + 16)] (fun U => EnvW w U ∧ AO2 true U ∧ CR w w.2.2.1 [.inl (7, [.ref (w.2.2.1.size + 1), .ref (w.2.2.1.size + 3), .ref (w.2.2.1.size + 7), .ref (w.2.2.1.size + 12)]), .inl (6, [.ref (w.2.2.1.size + 2), .int 0, .int 0]), .inr (2, 60, fun _ => .null), .inl (2, [.ref (w.2.2.1.size + 4), .ref (w.2.2.1.size + 5), .ref (w.2.2.1.size + 6), .int 7, .int 0]), .inr (0, 8, fun _ => .int 0), .inr (0, 8, fun _ => .int 0), .inr (0, 64, fun _ => .int 0), .inl (5, [.ref (w.2.2.1.size + 8), .ref (w.2.2.1.size + 9), .ref (w.2.2.1.size + 10), .ref (w.2.2.1.size + 11), .int 1, .int 255]), .inr (0, 40, updV (fun _ => .int 0) (ix 0) (.int 9)), .inr (0, 40, updV (fun _ => .int 0) (ix 0) (.int 9)), .inr (0, 40, updV (fun _ => .int 0) (ix 0) (.int 1)), .inr (0, 40, fun _ => .int 0), .inl (0, [.ref (w.2.2.1.size + 13), .int 0, .ref (w.2.2.1.size + 14), .int 0, .ref (w.2.2.1.size + 15)]), .inr (3, 12, fun _ => .null), .inr (0, 500, fun _ => .int 0), .inr (0, 12, fun _ => .int 0), .inl (8, [.null, .null, .null, .null, .null, .null, .int 0, .null, .null, .null, .null, .null, .null, .null, .int 0, .null, .null, .int 0, .null, .null, .null, .null, .null, .int 0, .null, .null, .null, .int 0, .int 0, .int 0, .null, .null, .null, .null, .null, .int 0, .null, .null, .null, .null, .null, .int 0, .null, .null, .null, .null, .null, .null, .null])] U.heap)) (Qm (w, adI w, σI) (none, σ1)) 40 1864 (fun q => w.2.2.1.size ≤ q) := by
  refine va_MetF (cc := mi_X8_init.2.1) (maxL := mi_X8_init.2.2.1) (ret := mi_X8_init.2.2.2) (by decide +kernel) rfl ?_
  intro p e s m args below meth c s₁ Bd hml hv
  obtain ⟨rfl, hE, hA, hR⟩ := hv
  have h1 := lv_entry [.ref (w.2.2.1.size + 16)] (n := mi_X8_init.2.2.1) (Nat.le_of_ble_eq_true rfl)
  rw [lg_entry_eq]
  have K : WD true (d + 2) (p, l, e, { frames := d + 2, cells := 40, slots := 1864, locals := 40 * (d + 2) }, s, m, [.ref (w.2.2.1.size + 16)].toArray, below, meth, c) (w, adI w, σI) (40, 1864) mi_X8_init 0 w.2.2.1 16 [] [.inl (7, [.ref (w.2.2.1.size + 1), .ref (w.2.2.1.size + 3), .ref (w.2.2.1.size + 7), .ref (w.2.2.1.size + 12)]), .inl (6, [.ref (w.2.2.1.size + 2), .int 0, .int 0]), .inr (2, 60, fun _ => .null), .inl (2, [.ref (w.2.2.1.size + 4), .ref (w.2.2.1.size + 5), .ref (w.2.2.1.size + 6), .int 7, .int 0]), .inr (0, 8, fun _ => .int 0), .inr (0, 8, fun _ => .int 0), .inr (0, 64, fun _ => .int 0), .inl (5, [.ref (w.2.2.1.size + 8), .ref (w.2.2.1.size + 9), .ref (w.2.2.1.size + 10), .ref (w.2.2.1.size + 11), .int 1, .int 255]), .inr (0, 40, updV (fun _ => .int 0) (ix 0) (.int 9)), .inr (0, 40, updV (fun _ => .int 0) (ix 0) (.int 9)), .inr (0, 40, updV (fun _ => .int 0) (ix 0) (.int 1)), .inr (0, 40, fun _ => .int 0), .inl (0, [.ref (w.2.2.1.size + 13), .int 0, .ref (w.2.2.1.size + 14), .int 0, .ref (w.2.2.1.size + 15)]), .inr (3, 12, fun _ => .null), .inr (0, 500, fun _ => .int 0), .inr (0, 12, fun _ => .int 0), .inl (8, [.null, .null, .null, .null, .null, .null, .int 0, .null, .null, .null, .null, .null, .null, .null, .int 0, .null, .null, .int 0, .null, .null, .null, .null, .null, .int 0, .null, .null, .null, .int 0, .int 0, .int 0, .null, .null, .null, .null, .null, .int 0, .null, .null, .null, .null, .null, .int 0, .null, .null, .null, .null, .null, .null, .null])] (Qm (w, adI w, σI) (none, σ1)) := ?_
  · exact K ⟨Bd.exec, Bd.bytes, Bd.returns, hml, findClass_of_methodNamed Bd.named, Bd.notSynchronized, hE, Nat.le_refl _, Nat.le_refl _⟩ hA ((name_of_methodNamed Bd.named Bd.method).1.trans rfl) s.heap [] _ 0 0 hR (fun q h => by cases h) ⟨h1.1, h1.2.1, h1.2.2 _ List.mem_cons_self⟩ (Nat.zero_add _) (Nat.zero_add _)
  refine mch_0 (B := w.2.2.1) ?_
  refine mch_46 (B := w.2.2.1) ?_
  refine mch_88 (B := w.2.2.1) ?_
  refine mch_132 (B := w.2.2.1) ?_
  refine mch_176 (B := w.2.2.1) ?_
  refine mch_220 (B := w.2.2.1) ?_
  refine mch_264 (B := w.2.2.1) ?_
  refine mch_305 (B := w.2.2.1) ?_
  refine mch_345 (B := w.2.2.1) ?_
  refine mch_385 (B := w.2.2.1) ?_
  refine mch_425 (B := w.2.2.1) ?_
  refine mch_465 (B := w.2.2.1) ?_
  refine mch_507 (B := w.2.2.1) ?_
  intro ok hA hn H locs ls cells slots hC hL hl hc hs
  have hC : CR w w.2.2.1 (nsI w) H := hC
  refine t_X8_init_539 (b := (0, 0)) hσ ok (adI w) H locs ls cells slots ⟨RelI hC, fun r i h => ⟨h, rfl⟩, hL, ⟨hl.1, hl.2.1, fun i v hi => ?_⟩, fun v hv => ?_, fun v h => by (cases h), hc, hs⟩
  · match i, hi with
    | 0, hi =>
      cases hi
      exact hl.2.2
    | 1, hi => cases hi
    | i + 2, hi => simp at hi
  · rcases List.mem_cons.mp hv with e | e
    · cases e
      exact Or.inl ⟨rfl, rfl⟩
    · rcases List.mem_cons.mp e with e | e
      · cases e
      · cases e
