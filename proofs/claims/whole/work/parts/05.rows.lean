section ROWS
variable {d : Nat} {X : MX} {Y : MY} {b : Nat × Nat} {mi : MI} {pc pc' : Nat} {lv : List (Option MV)} {st : List MV} {σ : SS} {res : RES}
theorem WM.lift {st' : List MV} (hs : (∀ v ∈ st, hal σ v) → (∀ v, some v ∈ lv → hal σ v) → ∀ v ∈ st', hal σ v)
    (row : ∀ {p : Program} {l : Launch} {e : Env} {R : Room} {s : State} {m : MethodId} {args : Array Value} {below : List Frame} {meth : Method} {c : Code} {H : Heap} {locs : List Loc} {cells slots : Nat} {Q : State → Prop} (ad : Nat → Nat → Nat) (ls : Array Slot), p.tables.exec = Jvm.exec → c.code = mi.2.1 → lok ad ls mi.2.2.1 lv →
      W p l e R s m args below meth c H locs cells slots Q (F0 m pc' ls (st'.map (cv ad))) → W p l e R s m args below meth c H locs cells slots Q (F0 m pc ls (st.map (cv ad))))
    (k : WM d X Y b mi pc' lv st' σ res) : WM d X Y b mi pc lv st σ res :=
  fun ok ad H locs ls cells slots h => row ad ls ok.1 ok.2.1 h.lv (k ok ad H locs ls cells slots (h.stk (hs h.hst h.hlv)))
theorem hc_ {v : MV} (hv : hal σ v) (h : ∀ u ∈ st, hal σ u) : ∀ u ∈ v :: st, hal σ u := List.forall_mem_cons.mpr ⟨hv, h⟩
theorem ht1 {v : MV} (h : ∀ u ∈ v :: st, hal σ u) : ∀ u ∈ st, hal σ u := (List.forall_mem_cons.mp h).2
theorem hh1 {v : MV} (h : ∀ u ∈ v :: st, hal σ u) : hal σ v := (List.forall_mem_cons.mp h).1
theorem r_iconst {n : Int} {x : Int32} (hd : decode mi.2.1 pc = .ok (.iconst n, 1)) (hv : Int32.ofInt n = x) (hp : pc + 1 = pc') (k : WM d X Y b mi pc' lv (vI x :: st) σ res) : WM d X Y b mi pc lv st σ res := by
  subst hp
  exact WM.lift (by exact fun h _ => hc_ trivial h) (fun ad ls hx hb _ k => lv_iconst hx hb hd hv k) k
theorem r_bipush {n : Int} {x : Int32} (hd : decode mi.2.1 pc = .ok (.bipush n, 2)) (hv : (Int8.ofInt n).toInt32 = x) (hp : pc + 2 = pc') (k : WM d X Y b mi pc' lv (vI x :: st) σ res) : WM d X Y b mi pc lv st σ res := by
  subst hp
  exact WM.lift (by exact fun h _ => hc_ trivial h) (fun ad ls hx hb _ k => lv_bipush hx hb hd hv k) k
theorem r_sipush {n : Int} {x : Int32} (hd : decode mi.2.1 pc = .ok (.sipush n, 3)) (hv : (Int16.ofInt n).toInt32 = x) (hp : pc + 3 = pc') (k : WM d X Y b mi pc' lv (vI x :: st) σ res) : WM d X Y b mi pc lv st σ res := by
  subst hp
  exact WM.lift (by exact fun h _ => hc_ trivial h) (fun ad ls hx hb _ k => lv_sipush hx hb hd hv k) k
theorem r_lconst {n : Fin 2} {x : Int64} (hd : decode mi.2.1 pc = .ok (.lconst n, 1)) (hv : Int64.ofNat (n : Nat) = x) (hp : pc + 1 = pc') (k : WM d X Y b mi pc' lv (vL x :: st) σ res) : WM d X Y b mi pc lv st σ res := by
  subst hp
  exact WM.lift (by exact fun h _ => hc_ trivial h) (fun ad ls hx hb _ k => lv_lconst hx hb hd hv k) k
theorem r_null (hd : decode mi.2.1 pc = .ok (.aconst_null, 1)) (hp : pc + 1 = pc') (k : WM d X Y b mi pc' lv (vN :: st) σ res) : WM d X Y b mi pc lv st σ res := by
  subst hp
  exact WM.lift (by exact fun h _ => hc_ trivial h) (fun ad ls hx hb _ k => lv_null hx hb hd k) k
theorem r_iload_n {n : Fin 4} {i : Nat} {x : Int32} (hd : decode mi.2.1 pc = .ok (.iload_n n, 1)) (hi : (n : Nat) = i) (hl : lv[i]? = some (some (vI x))) (hp : pc + 1 = pc') (k : WM d X Y b mi pc' lv (vI x :: st) σ res) : WM d X Y b mi pc lv st σ res := by
  subst hp
  exact WM.lift (by exact fun h _ => hc_ trivial h) (fun ad ls hx hb hL k => lv_iload_n hx hb hd hi (hL.2.2 i _ hl) k) k
theorem r_iload {i : Nat} {x : Int32} (hd : decode mi.2.1 pc = .ok (.iload i, 2)) (hl : lv[i]? = some (some (vI x))) (hp : pc + 2 = pc') (k : WM d X Y b mi pc' lv (vI x :: st) σ res) : WM d X Y b mi pc lv st σ res := by
  subst hp
  exact WM.lift (by exact fun h _ => hc_ trivial h) (fun ad ls hx hb hL k => lv_iload hx hb hd (hL.2.2 i _ hl) k) k
theorem r_lload_n {n : Fin 4} {i : Nat} {x : Int64} (hd : decode mi.2.1 pc = .ok (.lload_n n, 1)) (hi : (n : Nat) = i) (hl : lv[i]? = some (some (vL x))) (hp : pc + 1 = pc') (k : WM d X Y b mi pc' lv (vL x :: st) σ res) : WM d X Y b mi pc lv st σ res := by
  subst hp
  exact WM.lift (by exact fun h _ => hc_ trivial h) (fun ad ls hx hb hL k => lv_lload_n hx hb hd hi (hL.2.2 i _ hl) k) k
theorem r_lload {i : Nat} {x : Int64} (hd : decode mi.2.1 pc = .ok (.lload i, 2)) (hl : lv[i]? = some (some (vL x))) (hp : pc + 2 = pc') (k : WM d X Y b mi pc' lv (vL x :: st) σ res) : WM d X Y b mi pc lv st σ res := by
  subst hp
  exact WM.lift (by exact fun h _ => hc_ trivial h) (fun ad ls hx hb hL k => lv_lload hx hb hd (hL.2.2 i _ hl) k) k
theorem r_aload_n {n : Fin 4} {i : Nat} {q : Option (Nat × Nat)} (hd : decode mi.2.1 pc = .ok (.aload_n n, 1)) (hi : (n : Nat) = i) (hl : lv[i]? = some (some (.inr (.inr q)))) (hp : pc + 1 = pc') (k : WM d X Y b mi pc' lv (.inr (.inr q) :: st) σ res) : WM d X Y b mi pc lv st σ res := by
  subst hp
  refine WM.lift (by exact fun h h2 => hc_ (h2 _ (List.mem_of_getElem? hl)) h) (fun ad ls hx hb hL k => ?_) k
  cases q with
  | none => exact lv_aload_nN hx hb hd hi (hL.2.2 i _ hl) k
  | some q => exact lv_aload_n hx hb hd hi (hL.2.2 i _ hl) k
theorem r_aload {i : Nat} {q : Option (Nat × Nat)} (hd : decode mi.2.1 pc = .ok (.aload i, 2)) (hl : lv[i]? = some (some (.inr (.inr q)))) (hp : pc + 2 = pc') (k : WM d X Y b mi pc' lv (.inr (.inr q) :: st) σ res) : WM d X Y b mi pc lv st σ res := by
  subst hp
  refine WM.lift (by exact fun h h2 => hc_ (h2 _ (List.mem_of_getElem? hl)) h) (fun ad ls hx hb hL k => ?_) k
  cases q with
  | none => exact lv_aloadN hx hb hd (hL.2.2 i _ hl) k
  | some q => exact lv_aload hx hb hd (hL.2.2 i _ hl) k
theorem r_iadd {x y : Int32} (hd : decode mi.2.1 pc = .ok (.iadd, 1)) (hp : pc + 1 = pc') (k : WM d X Y b mi pc' lv (vI (x + y) :: st) σ res) : WM d X Y b mi pc lv (vI y :: vI x :: st) σ res := by
  subst hp
  exact WM.lift (by exact fun h _ => hc_ trivial (ht1 (ht1 h))) (fun ad ls hx hb _ k => lv_iadd hx hb hd k) k
theorem r_isub {x y : Int32} (hd : decode mi.2.1 pc = .ok (.isub, 1)) (hp : pc + 1 = pc') (k : WM d X Y b mi pc' lv (vI (x - y) :: st) σ res) : WM d X Y b mi pc lv (vI y :: vI x :: st) σ res := by
  subst hp
  exact WM.lift (by exact fun h _ => hc_ trivial (ht1 (ht1 h))) (fun ad ls hx hb _ k => lv_isub hx hb hd k) k
theorem r_imul {x y : Int32} (hd : decode mi.2.1 pc = .ok (.imul, 1)) (hp : pc + 1 = pc') (k : WM d X Y b mi pc' lv (vI (x * y) :: st) σ res) : WM d X Y b mi pc lv (vI y :: vI x :: st) σ res := by
  subst hp
  exact WM.lift (by exact fun h _ => hc_ trivial (ht1 (ht1 h))) (fun ad ls hx hb _ k => lv_imul hx hb hd k) k
theorem r_iand {x y : Int32} (hd : decode mi.2.1 pc = .ok (.iand, 1)) (hp : pc + 1 = pc') (k : WM d X Y b mi pc' lv (vI (x &&& y) :: st) σ res) : WM d X Y b mi pc lv (vI y :: vI x :: st) σ res := by
  subst hp
  exact WM.lift (by exact fun h _ => hc_ trivial (ht1 (ht1 h))) (fun ad ls hx hb _ k => lv_iand hx hb hd k) k
theorem r_ior {x y : Int32} (hd : decode mi.2.1 pc = .ok (.ior, 1)) (hp : pc + 1 = pc') (k : WM d X Y b mi pc' lv (vI (x ||| y) :: st) σ res) : WM d X Y b mi pc lv (vI y :: vI x :: st) σ res := by
  subst hp
  exact WM.lift (by exact fun h _ => hc_ trivial (ht1 (ht1 h))) (fun ad ls hx hb _ k => lv_ior hx hb hd k) k
theorem r_ixor {x y : Int32} (hd : decode mi.2.1 pc = .ok (.ixor, 1)) (hp : pc + 1 = pc') (k : WM d X Y b mi pc' lv (vI (x ^^^ y) :: st) σ res) : WM d X Y b mi pc lv (vI y :: vI x :: st) σ res := by
  subst hp
  exact WM.lift (by exact fun h _ => hc_ trivial (ht1 (ht1 h))) (fun ad ls hx hb _ k => lv_ixor hx hb hd k) k
theorem r_ishl {x y : Int32} (hd : decode mi.2.1 pc = .ok (.ishl, 1)) (hp : pc + 1 = pc') (k : WM d X Y b mi pc' lv (vI (x <<< (y &&& 31)) :: st) σ res) : WM d X Y b mi pc lv (vI y :: vI x :: st) σ res := by
  subst hp
  exact WM.lift (by exact fun h _ => hc_ trivial (ht1 (ht1 h))) (fun ad ls hx hb _ k => lv_ishl hx hb hd k) k
theorem r_ishr {x y : Int32} (hd : decode mi.2.1 pc = .ok (.ishr, 1)) (hp : pc + 1 = pc') (k : WM d X Y b mi pc' lv (vI (x >>> (y &&& 31)) :: st) σ res) : WM d X Y b mi pc lv (vI y :: vI x :: st) σ res := by
  subst hp
  exact WM.lift (by exact fun h _ => hc_ trivial (ht1 (ht1 h))) (fun ad ls hx hb _ k => lv_ishr hx hb hd k) k
theorem r_ladd {x y : Int64} (hd : decode mi.2.1 pc = .ok (.ladd, 1)) (hp : pc + 1 = pc') (k : WM d X Y b mi pc' lv (vL (x + y) :: st) σ res) : WM d X Y b mi pc lv (vL y :: vL x :: st) σ res := by
  subst hp
  exact WM.lift (by exact fun h _ => hc_ trivial (ht1 (ht1 h))) (fun ad ls hx hb _ k => lv_ladd hx hb hd k) k
theorem r_lsub {x y : Int64} (hd : decode mi.2.1 pc = .ok (.lsub, 1)) (hp : pc + 1 = pc') (k : WM d X Y b mi pc' lv (vL (x - y) :: st) σ res) : WM d X Y b mi pc lv (vL y :: vL x :: st) σ res := by
  subst hp
  exact WM.lift (by exact fun h _ => hc_ trivial (ht1 (ht1 h))) (fun ad ls hx hb _ k => lv_lsub hx hb hd k) k
theorem r_lmul {x y : Int64} (hd : decode mi.2.1 pc = .ok (.lmul, 1)) (hp : pc + 1 = pc') (k : WM d X Y b mi pc' lv (vL (x * y) :: st) σ res) : WM d X Y b mi pc lv (vL y :: vL x :: st) σ res := by
  subst hp
  exact WM.lift (by exact fun h _ => hc_ trivial (ht1 (ht1 h))) (fun ad ls hx hb _ k => lv_lmul hx hb hd k) k
theorem r_land {x y : Int64} (hd : decode mi.2.1 pc = .ok (.land, 1)) (hp : pc + 1 = pc') (k : WM d X Y b mi pc' lv (vL (x &&& y) :: st) σ res) : WM d X Y b mi pc lv (vL y :: vL x :: st) σ res := by
  subst hp
  exact WM.lift (by exact fun h _ => hc_ trivial (ht1 (ht1 h))) (fun ad ls hx hb _ k => lv_land hx hb hd k) k
theorem r_lor {x y : Int64} (hd : decode mi.2.1 pc = .ok (.lor, 1)) (hp : pc + 1 = pc') (k : WM d X Y b mi pc' lv (vL (x ||| y) :: st) σ res) : WM d X Y b mi pc lv (vL y :: vL x :: st) σ res := by
  subst hp
  exact WM.lift (by exact fun h _ => hc_ trivial (ht1 (ht1 h))) (fun ad ls hx hb _ k => lv_lor hx hb hd k) k
theorem r_idiv {x y : Int32} (hd : decode mi.2.1 pc = .ok (.idiv, 1)) (hne : ¬ y = 0) (hp : pc + 1 = pc') (k : WM d X Y b mi pc' lv (vI (x / y) :: st) σ res) : WM d X Y b mi pc lv (vI y :: vI x :: st) σ res := by
  subst hp
  exact WM.lift (by exact fun h _ => hc_ trivial (ht1 (ht1 h))) (fun ad ls hx hb _ k => lv_idiv hx hb hd hne k) k
theorem r_irem {x y : Int32} (hd : decode mi.2.1 pc = .ok (.irem, 1)) (hne : ¬ y = 0) (hp : pc + 1 = pc') (k : WM d X Y b mi pc' lv (vI (x - x / y * y) :: st) σ res) : WM d X Y b mi pc lv (vI y :: vI x :: st) σ res := by
  subst hp
  exact WM.lift (by exact fun h _ => hc_ trivial (ht1 (ht1 h))) (fun ad ls hx hb _ k => lv_irem hx hb hd hne k) k
theorem r_ineg {x : Int32} (hd : decode mi.2.1 pc = .ok (.ineg, 1)) (hp : pc + 1 = pc') (k : WM d X Y b mi pc' lv (vI (-x) :: st) σ res) : WM d X Y b mi pc lv (vI x :: st) σ res := by
  subst hp
  exact WM.lift (by exact fun h _ => hc_ trivial (ht1 h)) (fun ad ls hx hb _ k => lv_ineg hx hb hd k) k
theorem r_i2l {x : Int32} (hd : decode mi.2.1 pc = .ok (.i2l, 1)) (hp : pc + 1 = pc') (k : WM d X Y b mi pc' lv (vL x.toInt64 :: st) σ res) : WM d X Y b mi pc lv (vI x :: st) σ res := by
  subst hp
  exact WM.lift (by exact fun h _ => hc_ trivial (ht1 h)) (fun ad ls hx hb _ k => lv_i2l hx hb hd rfl k) k
theorem r_iushr {x y : Int32} (hd : decode mi.2.1 pc = .ok (.iushr, 1)) (hp : pc + 1 = pc') (k : WM d X Y b mi pc' lv (vI (x.toUInt32 >>> (y.toUInt32 &&& Int32.toUInt32 31)).toInt32 :: st) σ res) : WM d X Y b mi pc lv (vI y :: vI x :: st) σ res := by
  subst hp
  exact WM.lift (by exact fun h _ => hc_ trivial (ht1 (ht1 h))) (fun ad ls hx hb _ k => lv_iushr hx hb hd rfl k) k
theorem r_lshl {x : Int64} {y : Int32} (hd : decode mi.2.1 pc = .ok (.lshl, 1)) (hp : pc + 1 = pc') (k : WM d X Y b mi pc' lv (vL (x <<< (y.toInt64 &&& 63)) :: st) σ res) : WM d X Y b mi pc lv (vI y :: vL x :: st) σ res := by
  subst hp
  exact WM.lift (by exact fun h _ => hc_ trivial (ht1 (ht1 h))) (fun ad ls hx hb _ k => lv_lshl hx hb hd rfl k) k
theorem r_lshr {x : Int64} {y : Int32} (hd : decode mi.2.1 pc = .ok (.lshr, 1)) (hp : pc + 1 = pc') (k : WM d X Y b mi pc' lv (vL (x >>> (y.toInt64 &&& 63)) :: st) σ res) : WM d X Y b mi pc lv (vI y :: vL x :: st) σ res := by
  subst hp
  exact WM.lift (by exact fun h _ => hc_ trivial (ht1 (ht1 h))) (fun ad ls hx hb _ k => lv_lshr hx hb hd rfl k) k
theorem r_dup {v : MV} (hd : decode mi.2.1 pc = .ok (.dup, 1)) (hv : c1 v = true) (hp : pc + 1 = pc') (k : WM d X Y b mi pc' lv (v :: v :: st) σ res) : WM d X Y b mi pc lv (v :: st) σ res := by
  subst hp
  exact WM.lift (by exact fun h _ => hc_ (hh1 h) h) (fun ad ls hx hb _ k => lv_dup hx hb hd (c1_cat hv) k) k
theorem r_pop {v : MV} (hd : decode mi.2.1 pc = .ok (.pop, 1)) (hv : c1 v = true) (hp : pc + 1 = pc') (k : WM d X Y b mi pc' lv st σ res) : WM d X Y b mi pc lv (v :: st) σ res := by
  subst hp
  exact WM.lift (by exact fun h _ => ht1 h) (fun ad ls hx hb _ k => lv_pop hx hb hd (c1_cat hv) k) k
theorem r_dup_x1 {v u : MV} (hd : decode mi.2.1 pc = .ok (.dup_x1, 1)) (hv : c1 v = true) (hu : c1 u = true) (hp : pc + 1 = pc') (k : WM d X Y b mi pc' lv (v :: u :: v :: st) σ res) : WM d X Y b mi pc lv (v :: u :: st) σ res := by
  subst hp
  exact WM.lift (by exact fun h _ => hc_ (hh1 h) (hc_ (hh1 (ht1 h)) (hc_ (hh1 h) (ht1 (ht1 h))))) (fun ad ls hx hb _ k => lv_dup_x1 hx hb hd (c1_cat hv) (c1_cat hu) k) k
theorem r_dup2 {v u : MV} (hd : decode mi.2.1 pc = .ok (.dup2, 1)) (hv : c1 v = true) (hu : c1 u = true) (hp : pc + 1 = pc') (k : WM d X Y b mi pc' lv (v :: u :: v :: u :: st) σ res) : WM d X Y b mi pc lv (v :: u :: st) σ res := by
  subst hp
  exact WM.lift (by exact fun h _ => hc_ (hh1 h) (hc_ (hh1 (ht1 h)) h)) (fun ad ls hx hb _ k => lv_dup2_11 hx hb hd (c1_cat hv) (c1_cat hu) k) k
theorem r_goto {off : Int} (hd : decode mi.2.1 pc = .ok (.goto off, 3)) (ht : (pc : Int) + off = (pc' : Int)) (k : WM d X Y b mi pc' lv st σ res) : WM d X Y b mi pc lv st σ res :=
  WM.lift (by exact fun h _ => h) (fun ad ls hx hb _ k => lv_goto hx hb hd ht k) k
theorem WM.lift2 {st' : List MV} {pcT pcF : Nat} {c : Prop} (hs : (∀ v ∈ st, hal σ v) → ∀ v ∈ st', hal σ v)
    (row : ∀ {p : Program} {l : Launch} {e : Env} {R : Room} {s : State} {m : MethodId} {args : Array Value} {below : List Frame} {meth : Method} {cd : Code} {H : Heap} {locs : List Loc} {cells slots : Nat} {Q : State → Prop} (ad : Nat → Nat → Nat) (ls : Array Slot), p.tables.exec = Jvm.exec → cd.code = mi.2.1 →
      (c → W p l e R s m args below meth cd H locs cells slots Q (F0 m pcT ls (st'.map (cv ad)))) → (¬ c → W p l e R s m args below meth cd H locs cells slots Q (F0 m pcF ls (st'.map (cv ad)))) → W p l e R s m args below meth cd H locs cells slots Q (F0 m pc ls (st.map (cv ad))))
    (kT : c → WM d X Y b mi pcT lv st' σ res) (kF : ¬ c → WM d X Y b mi pcF lv st' σ res) : WM d X Y b mi pc lv st σ res :=
  fun ok ad H locs ls cells slots h => row ad ls ok.1 ok.2.1 (fun hcd => kT hcd ok ad H locs ls cells slots (h.stk (hs h.hst))) (fun hcd => kF hcd ok ad H locs ls cells slots (h.stk (hs h.hst)))
theorem r_icmp_eq {α : Type} {A B : Option α} {rr : α} {x y : Int32} {off : Int} {pcT : Nat} (hd : decode mi.2.1 pc = .ok (.if_icmp .eq off, 3)) (ht : (pc : Int) + off = (pcT : Int)) (hp : pc + 3 = pc') (h : (if x = y then A else B) = some rr) (kT : x = y → A = some rr → WM d X Y b mi pcT lv st σ res) (kF : ¬ (x = y) → B = some rr → WM d X Y b mi pc' lv st σ res) : WM d X Y b mi pc lv (vI y :: vI x :: st) σ res := by
  subst hp
  exact WM.lift2 (c := x = y) (by exact fun h => ht1 (ht1 h)) (fun ad ls hx hb kT kF => lv_icmp_eq hx hb hd ht kT kF) (fun hc => kT hc (by rw [if_pos hc] at h; exact h)) (fun hc => kF hc (by rw [if_neg hc] at h; exact h))
theorem r_if_eq {α : Type} {A B : Option α} {rr : α} {x : Int32} {off : Int} {pcT : Nat} (hd : decode mi.2.1 pc = .ok (.ifCond .eq off, 3)) (ht : (pc : Int) + off = (pcT : Int)) (hp : pc + 3 = pc') (h : (if x = 0 then A else B) = some rr) (kT : x = 0 → A = some rr → WM d X Y b mi pcT lv st σ res) (kF : ¬ (x = 0) → B = some rr → WM d X Y b mi pc' lv st σ res) : WM d X Y b mi pc lv (vI x :: st) σ res := by
  subst hp
  exact WM.lift2 (c := x = 0) (by exact fun h => ht1 h) (fun ad ls hx hb kT kF => lv_if_eq hx hb hd ht kT kF) (fun hc => kT hc (by rw [if_pos hc] at h; exact h)) (fun hc => kF hc (by rw [if_neg hc] at h; exact h))
theorem r_icmp_lt {α : Type} {A B : Option α} {rr : α} {x y : Int32} {off : Int} {pcT : Nat} (hd : decode mi.2.1 pc = .ok (.if_icmp .lt off, 3)) (ht : (pc : Int) + off = (pcT : Int)) (hp : pc + 3 = pc') (h : (if x < y then A else B) = some rr) (kT : x < y → A = some rr → WM d X Y b mi pcT lv st σ res) (kF : ¬ (x < y) → B = some rr → WM d X Y b mi pc' lv st σ res) : WM d X Y b mi pc lv (vI y :: vI x :: st) σ res := by
  subst hp
  exact WM.lift2 (c := x < y) (by exact fun h => ht1 (ht1 h)) (fun ad ls hx hb kT kF => lv_icmp_lt hx hb hd ht kT kF) (fun hc => kT hc (by rw [if_pos hc] at h; exact h)) (fun hc => kF hc (by rw [if_neg hc] at h; exact h))
theorem r_if_lt {α : Type} {A B : Option α} {rr : α} {x : Int32} {off : Int} {pcT : Nat} (hd : decode mi.2.1 pc = .ok (.ifCond .lt off, 3)) (ht : (pc : Int) + off = (pcT : Int)) (hp : pc + 3 = pc') (h : (if x < 0 then A else B) = some rr) (kT : x < 0 → A = some rr → WM d X Y b mi pcT lv st σ res) (kF : ¬ (x < 0) → B = some rr → WM d X Y b mi pc' lv st σ res) : WM d X Y b mi pc lv (vI x :: st) σ res := by
  subst hp
  exact WM.lift2 (c := x < 0) (by exact fun h => ht1 h) (fun ad ls hx hb kT kF => lv_if_lt hx hb hd ht kT kF) (fun hc => kT hc (by rw [if_pos hc] at h; exact h)) (fun hc => kF hc (by rw [if_neg hc] at h; exact h))
theorem r_icmp_ge {α : Type} {A B : Option α} {rr : α} {x y : Int32} {off : Int} {pcT : Nat} (hd : decode mi.2.1 pc = .ok (.if_icmp .ge off, 3)) (ht : (pc : Int) + off = (pcT : Int)) (hp : pc + 3 = pc') (h : (if y ≤ x then A else B) = some rr) (kT : y ≤ x → A = some rr → WM d X Y b mi pcT lv st σ res) (kF : ¬ (y ≤ x) → B = some rr → WM d X Y b mi pc' lv st σ res) : WM d X Y b mi pc lv (vI y :: vI x :: st) σ res := by
  subst hp
  exact WM.lift2 (c := y ≤ x) (by exact fun h => ht1 (ht1 h)) (fun ad ls hx hb kT kF => lv_icmp_ge hx hb hd ht kT kF) (fun hc => kT hc (by rw [if_pos hc] at h; exact h)) (fun hc => kF hc (by rw [if_neg hc] at h; exact h))
theorem r_if_ge {α : Type} {A B : Option α} {rr : α} {x : Int32} {off : Int} {pcT : Nat} (hd : decode mi.2.1 pc = .ok (.ifCond .ge off, 3)) (ht : (pc : Int) + off = (pcT : Int)) (hp : pc + 3 = pc') (h : (if 0 ≤ x then A else B) = some rr) (kT : 0 ≤ x → A = some rr → WM d X Y b mi pcT lv st σ res) (kF : ¬ (0 ≤ x) → B = some rr → WM d X Y b mi pc' lv st σ res) : WM d X Y b mi pc lv (vI x :: st) σ res := by
  subst hp
  exact WM.lift2 (c := 0 ≤ x) (by exact fun h => ht1 h) (fun ad ls hx hb kT kF => lv_if_ge hx hb hd ht kT kF) (fun hc => kT hc (by rw [if_pos hc] at h; exact h)) (fun hc => kF hc (by rw [if_neg hc] at h; exact h))
theorem r_icmp_gt {α : Type} {A B : Option α} {rr : α} {x y : Int32} {off : Int} {pcT : Nat} (hd : decode mi.2.1 pc = .ok (.if_icmp .gt off, 3)) (ht : (pc : Int) + off = (pcT : Int)) (hp : pc + 3 = pc') (h : (if y < x then A else B) = some rr) (kT : y < x → A = some rr → WM d X Y b mi pcT lv st σ res) (kF : ¬ (y < x) → B = some rr → WM d X Y b mi pc' lv st σ res) : WM d X Y b mi pc lv (vI y :: vI x :: st) σ res := by
  subst hp
  exact WM.lift2 (c := y < x) (by exact fun h => ht1 (ht1 h)) (fun ad ls hx hb kT kF => lv_icmp_gt hx hb hd ht kT kF) (fun hc => kT hc (by rw [if_pos hc] at h; exact h)) (fun hc => kF hc (by rw [if_neg hc] at h; exact h))
theorem r_if_gt {α : Type} {A B : Option α} {rr : α} {x : Int32} {off : Int} {pcT : Nat} (hd : decode mi.2.1 pc = .ok (.ifCond .gt off, 3)) (ht : (pc : Int) + off = (pcT : Int)) (hp : pc + 3 = pc') (h : (if 0 < x then A else B) = some rr) (kT : 0 < x → A = some rr → WM d X Y b mi pcT lv st σ res) (kF : ¬ (0 < x) → B = some rr → WM d X Y b mi pc' lv st σ res) : WM d X Y b mi pc lv (vI x :: st) σ res := by
  subst hp
  exact WM.lift2 (c := 0 < x) (by exact fun h => ht1 h) (fun ad ls hx hb kT kF => lv_if_gt hx hb hd ht kT kF) (fun hc => kT hc (by rw [if_pos hc] at h; exact h)) (fun hc => kF hc (by rw [if_neg hc] at h; exact h))
theorem r_icmp_le {α : Type} {A B : Option α} {rr : α} {x y : Int32} {off : Int} {pcT : Nat} (hd : decode mi.2.1 pc = .ok (.if_icmp .le off, 3)) (ht : (pc : Int) + off = (pcT : Int)) (hp : pc + 3 = pc') (h : (if x ≤ y then A else B) = some rr) (kT : x ≤ y → A = some rr → WM d X Y b mi pcT lv st σ res) (kF : ¬ (x ≤ y) → B = some rr → WM d X Y b mi pc' lv st σ res) : WM d X Y b mi pc lv (vI y :: vI x :: st) σ res := by
  subst hp
  exact WM.lift2 (c := x ≤ y) (by exact fun h => ht1 (ht1 h)) (fun ad ls hx hb kT kF => lv_icmp_le hx hb hd ht kT kF) (fun hc => kT hc (by rw [if_pos hc] at h; exact h)) (fun hc => kF hc (by rw [if_neg hc] at h; exact h))
theorem r_if_le {α : Type} {A B : Option α} {rr : α} {x : Int32} {off : Int} {pcT : Nat} (hd : decode mi.2.1 pc = .ok (.ifCond .le off, 3)) (ht : (pc : Int) + off = (pcT : Int)) (hp : pc + 3 = pc') (h : (if x ≤ 0 then A else B) = some rr) (kT : x ≤ 0 → A = some rr → WM d X Y b mi pcT lv st σ res) (kF : ¬ (x ≤ 0) → B = some rr → WM d X Y b mi pc' lv st σ res) : WM d X Y b mi pc lv (vI x :: st) σ res := by
  subst hp
  exact WM.lift2 (c := x ≤ 0) (by exact fun h => ht1 h) (fun ad ls hx hb kT kF => lv_if_le hx hb hd ht kT kF) (fun hc => kT hc (by rw [if_pos hc] at h; exact h)) (fun hc => kF hc (by rw [if_neg hc] at h; exact h))
theorem r_icmp_ne {α : Type} {A B : Option α} {rr : α} {x y : Int32} {off : Int} {pcT : Nat} (hd : decode mi.2.1 pc = .ok (.if_icmp .ne off, 3)) (ht : (pc : Int) + off = (pcT : Int)) (hp : pc + 3 = pc') (h : (if x = y then A else B) = some rr) (kT : x = y → A = some rr → WM d X Y b mi pc' lv st σ res) (kF : ¬ (x = y) → B = some rr → WM d X Y b mi pcT lv st σ res) : WM d X Y b mi pc lv (vI y :: vI x :: st) σ res := by
  subst hp
  exact WM.lift2 (c := x = y) (by exact fun h => ht1 (ht1 h)) (fun ad ls hx hb kT kF => lv_icmp_ne hx hb hd ht kF kT) (fun hc => kT hc (by rw [if_pos hc] at h; exact h)) (fun hc => kF hc (by rw [if_neg hc] at h; exact h))
theorem r_if_ne {α : Type} {A B : Option α} {rr : α} {x : Int32} {off : Int} {pcT : Nat} (hd : decode mi.2.1 pc = .ok (.ifCond .ne off, 3)) (ht : (pc : Int) + off = (pcT : Int)) (hp : pc + 3 = pc') (h : (if x = 0 then A else B) = some rr) (kT : x = 0 → A = some rr → WM d X Y b mi pc' lv st σ res) (kF : ¬ (x = 0) → B = some rr → WM d X Y b mi pcT lv st σ res) : WM d X Y b mi pc lv (vI x :: st) σ res := by
  subst hp
  exact WM.lift2 (c := x = 0) (by exact fun h => ht1 h) (fun ad ls hx hb kT kF => lv_if_ne hx hb hd ht kF kT) (fun hc => kT hc (by rw [if_pos hc] at h; exact h)) (fun hc => kF hc (by rw [if_neg hc] at h; exact h))
theorem r_ifnull {α : Type} {A : Option α} {B : Nat → Option α} {rr : α} {r : Nat} {q : Option Nat} {off : Int} {pcT : Nat} (hd : decode mi.2.1 pc = .ok (.ifnull off, 3)) (ht : (pc : Int) + off = (pcT : Int)) (hp : pc + 3 = pc') (h : q.elim A B = some rr) (kT : q = none → A = some rr → WM d X Y b mi pcT lv st σ res) (kF : ∀ i, q = some i → B i = some rr → WM d X Y b mi pc' lv st σ res) : WM d X Y b mi pc lv (vO r q :: st) σ res := by
  subst hp
  cases q with
  | none => exact WM.lift (by exact fun h _ => ht1 h) (fun ad ls hx hb _ k => lv_ifnullN hx hb hd ht k) (kT rfl h)
  | some i => exact WM.lift (by exact fun h _ => ht1 h) (fun ad ls hx hb _ k => lv_ifnull hx hb hd k) (kF i rfl h)
theorem r_ifnonnull {α : Type} {A : Option α} {B : Nat → Option α} {rr : α} {r : Nat} {q : Option Nat} {off : Int} {pcT : Nat} (hd : decode mi.2.1 pc = .ok (.ifnonnull off, 3)) (ht : (pc : Int) + off = (pcT : Int)) (hp : pc + 3 = pc') (h : q.elim A B = some rr) (kT : q = none → A = some rr → WM d X Y b mi pc' lv st σ res) (kF : ∀ i, q = some i → B i = some rr → WM d X Y b mi pcT lv st σ res) : WM d X Y b mi pc lv (vO r q :: st) σ res := by
  subst hp
  cases q with
  | none => exact WM.lift (by exact fun h _ => ht1 h) (fun ad ls hx hb _ k => lv_ifnonnullN hx hb hd k) (kT rfl h)
  | some i => exact WM.lift (by exact fun h _ => ht1 h) (fun ad ls hx hb _ k => lv_ifnonnull hx hb hd ht k) (kF i rfl h)
theorem hset {lv : List (Option MV)} {i : Nat} {v : MV} (h : ∀ u, some u ∈ lv → hal σ u) (hv : hal σ v) : ∀ u, some u ∈ lv.set i (some v) → hal σ u := fun u hu => by
  rcases List.mem_or_eq_of_mem_set hu with h1 | h1
  · exact h u h1
  · cases h1
    exact hv
theorem hsetN {lv : List (Option MV)} {i : Nat} (h : ∀ u, some u ∈ lv → hal σ u) : ∀ u, some u ∈ lv.set i none → hal σ u := fun u hu => by
  rcases List.mem_or_eq_of_mem_set hu with h1 | h1
  · exact h u h1
  · cases h1
theorem r_istore {i : Nat} {x : Int32} (hd : decode mi.2.1 pc = .ok (.istore i, 2)) (hn : Nat.blt i mi.2.2.1 = true) (hl : pL lv i = false) (hp : pc + 2 = pc') (k : WM d X Y b mi pc' (lv.set i (some (vI x))) st σ res) : WM d X Y b mi pc lv (vI x :: st) σ res := by
  subst hp
  intro ok ad H locs ls cells slots h
  exact lv_istore ok.1 ok.2.1 hd h.lv.has (by simpa using hn) rfl (fun ls' h2 => k ok ad H locs ls' cells slots (h.sto (lok.s1 (v := vI x) hl h2) (hset h.hlv (hh1 h.hst)) (ht1 h.hst)))
theorem r_istore_n {i : Nat} {n : Fin 4} {x : Int32} (hd : decode mi.2.1 pc = .ok (.istore_n n, 1)) (hi : (n : Nat) = i) (hn : Nat.blt i mi.2.2.1 = true) (hl : pL lv i = false) (hp : pc + 1 = pc') (k : WM d X Y b mi pc' (lv.set i (some (vI x))) st σ res) : WM d X Y b mi pc lv (vI x :: st) σ res := by
  subst hp
  intro ok ad H locs ls cells slots h
  exact lv_istore_n ok.1 ok.2.1 hd hi h.lv.has (by simpa using hn) rfl (fun ls' h2 => k ok ad H locs ls' cells slots (h.sto (lok.s1 (v := vI x) hl h2) (hset h.hlv (hh1 h.hst)) (ht1 h.hst)))
theorem r_astore {i : Nat} {q : Option (Nat × Nat)} (hd : decode mi.2.1 pc = .ok (.astore i, 2)) (hn : Nat.blt i mi.2.2.1 = true) (hl : pL lv i = false) (hp : pc + 2 = pc') (k : WM d X Y b mi pc' (lv.set i (some (.inr (.inr q)))) st σ res) : WM d X Y b mi pc lv (.inr (.inr q) :: st) σ res := by
  subst hp
  intro ok ad H locs ls cells slots h
  cases q with
  | none => exact lv_astoreN ok.1 ok.2.1 hd h.lv.has (by simpa using hn) rfl (fun ls' h2 => k ok ad H locs ls' cells slots (h.sto (lok.s1 (v := vN) hl h2) (hset h.hlv (hh1 h.hst)) (ht1 h.hst)))
  | some q => exact lv_astore ok.1 ok.2.1 hd h.lv.has (by simpa using hn) rfl (fun ls' h2 => k ok ad H locs ls' cells slots (h.sto (lok.s1 (v := .inr (.inr (some q))) hl h2) (hset h.hlv (hh1 h.hst)) (ht1 h.hst)))
theorem r_astore_n {i : Nat} {n : Fin 4} {q : Option (Nat × Nat)} (hd : decode mi.2.1 pc = .ok (.astore_n n, 1)) (hi : (n : Nat) = i) (hn : Nat.blt i mi.2.2.1 = true) (hl : pL lv i = false) (hp : pc + 1 = pc') (k : WM d X Y b mi pc' (lv.set i (some (.inr (.inr q)))) st σ res) : WM d X Y b mi pc lv (.inr (.inr q) :: st) σ res := by
  subst hp
  intro ok ad H locs ls cells slots h
  cases q with
  | none => exact lv_astore_nN ok.1 ok.2.1 hd hi h.lv.has (by simpa using hn) rfl (fun ls' h2 => k ok ad H locs ls' cells slots (h.sto (lok.s1 (v := vN) hl h2) (hset h.hlv (hh1 h.hst)) (ht1 h.hst)))
  | some q => exact lv_astore_n ok.1 ok.2.1 hd hi h.lv.has (by simpa using hn) rfl (fun ls' h2 => k ok ad H locs ls' cells slots (h.sto (lok.s1 (v := .inr (.inr (some q))) hl h2) (hset h.hlv (hh1 h.hst)) (ht1 h.hst)))
theorem r_lstore {i : Nat} {x : Int64} (hd : decode mi.2.1 pc = .ok (.lstore i, 2)) (hn : Nat.blt (i + 1) mi.2.2.1 = true) (hl : pL lv i = false) (hp : pc + 2 = pc') (k : WM d X Y b mi pc' ((lv.set (i + 1) none).set i (some (vL x))) st σ res) : WM d X Y b mi pc lv (vL x :: st) σ res := by
  subst hp
  intro ok ad H locs ls cells slots h
  exact lv_lstore ok.1 ok.2.1 hd h.lv.has (by simpa using hn) rfl (fun ls' h2 => k ok ad H locs ls' cells slots (h.sto (lok.s2 hl h2) (hset (hsetN h.hlv) (hh1 h.hst)) (ht1 h.hst)))
theorem r_lstore_n {i : Nat} {n : Fin 4} {x : Int64} (hd : decode mi.2.1 pc = .ok (.lstore_n n, 1)) (hi : (n : Nat) = i) (hn : Nat.blt (i + 1) mi.2.2.1 = true) (hl : pL lv i = false) (hp : pc + 1 = pc') (k : WM d X Y b mi pc' ((lv.set (i + 1) none).set i (some (vL x))) st σ res) : WM d X Y b mi pc lv (vL x :: st) σ res := by
  subst hp
  intro ok ad H locs ls cells slots h
  exact lv_lstore_n ok.1 ok.2.1 hd hi h.lv.has (by simpa using hn) rfl (fun ls' h2 => k ok ad H locs ls' cells slots (h.sto (lok.s2 hl h2) (hset (hsetN h.hlv) (hh1 h.hst)) (ht1 h.hst)))
theorem r_iinc {i : Nat} {n : Int} {x v : Int32} (hd : decode mi.2.1 pc = .ok (.iinc i n, 3)) (hx : lv[i]? = some (some (vI x))) (hv : x + Int32.ofInt n = v) (hn : Nat.blt i mi.2.2.1 = true) (hl : pL lv i = false) (hp : pc + 3 = pc') (k : WM d X Y b mi pc' (lv.set i (some (vI v))) st σ res) : WM d X Y b mi pc lv st σ res := by
  subst hp
  intro ok ad H locs ls cells slots h
  have h0 : lv_has ls mi.2.2.1 ((i, Value.int x) :: lpairs ad lv) := ⟨h.lv.1, h.lv.2.1, fun q hq => by
    rcases List.mem_cons.mp hq with e | e
    · rw [e]
      exact h.lv.2.2 i _ hx
    · exact h.lv.has.2.2 q e⟩
  refine lv_iinc ok.1 ok.2.1 hd h0 (k := 0) rfl hv (by simpa using hn) rfl (fun ls' h2 => k ok ad H locs ls' cells slots (h.sto (lok.s1 (v := vI v) hl ?_) (hset h.hlv trivial) h.hst))
  rw [List.filter_cons_of_neg (by simp)] at h2
  exact h2
def drp (lv : List (Option MV)) : List Nat → List (Option MV)
  | [] => lv
  | k :: ks => drp (lv.set k none) ks
theorem drp_get {i : Nat} {v : MV} : ∀ (ks : List Nat) (lv : List (Option MV)), (drp lv ks)[i]? = some (some v) → lv[i]? = some (some v)
  | [], _, h => h
  | k :: ks, lv, h => by
    have h1 := drp_get ks _ h
    rw [List.getElem?_set] at h1
    split at h1
    · split at h1 <;> cases h1
    · exact h1
theorem WM.drop (ks : List Nat) {lv' : List (Option MV)} (he : drp lv ks = lv') (k : WM d X Y b mi pc lv' st σ res) : WM d X Y b mi pc lv st σ res := by
  subst he
  intro ok ad H locs ls cells slots h
  refine k ok ad H locs ls cells slots ⟨h.1, h.2.1, h.2.2.1, ⟨h.lv.1, h.lv.2.1, fun i v hi => h.lv.2.2 i v (drp_get ks lv hi)⟩, fun v hv => ?_, h.2.2.2.2.2⟩
  obtain ⟨i, hi⟩ := List.mem_iff_getElem?.mp hv
  exact h.hlv v (List.mem_of_getElem? (drp_get ks lv hi))
end ROWS
