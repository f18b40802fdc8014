/-! ===== CONSTRUCTORS: cells that are made one behind another ===== -/
/-- an object: its class's number, its fields; an array: its kind, its length, what it holds -/
abbrev NC : Type := (Nat × List Value) ⊕ (Nat × Nat × (Nat → Value))
def ncOk (w : WX) (a : Nat) (c : NC) (H : Heap) : Prop := match c with
  | .inl o => t_OB a (w.1.1 o.1) o.2.length (w.1.2 o.1) H (vp_V o.2)
  | .inr q => H[a]? = some (arrV (w.2.1 q.1) q.2.1 q.2.2)
theorem ncOk.kept {w : WX} {a : Nat} {c : NC} {H H' : Heap} (h : ncOk w a c H) (e : H'[a]? = H[a]?) : ncOk w a c H' := by
  match c, h with
  | .inl o, h => exact t_OB.kept h e
  | .inr q, h => exact (show H'[a]? = _ by rw [e]; exact h)
def CR (w : WX) (B : Heap) (ns : List NC) (H : Heap) : Prop := H.size = B.size + ns.length ∧ (∀ q : Nat, q < B.size → H[q]? = B[q]?) ∧ ∀ (k : Nat) (c : NC), ns[k]? = some c → ncOk w (B.size + k) c H
theorem CR.push {w : WX} {B : Heap} {ns : List NC} {H H' : Heap} {c : NC} (h : CR w B ns H) (hz : H'.size = H.size + 1) (ho : ∀ q, q < H.size → H'[q]? = H[q]?) (hc : ncOk w H.size c H') : CR w B (ns ++ [c]) H' := by
  refine ⟨by rw [hz, h.1, List.length_append]; rfl, fun q hq => by rw [ho q (by have := h.1; omega)]; exact h.2.1 q hq, fun k d hk => ?_⟩
  by_cases hl : k < ns.length
  · rw [List.getElem?_append_left hl] at hk
    exact (h.2.2 k d hk).kept (ho _ (by have := h.1; omega))
  · rw [List.getElem?_append_right (by omega)] at hk
    have hz2 : k - ns.length < 1 := (List.getElem?_eq_some_iff.mp hk).1
    rw [show k - ns.length = 0 by omega] at hk
    cases hk
    rw [show B.size + k = H.size by have := h.1; omega]
    exact hc
theorem CR.set {w : WX} {B : Heap} {ns : List NC} {H H' : Heap} {i : Nat} {c : NC} (h : CR w B ns H) (hz : H'.size = H.size) (ho : ∀ q, q ≠ B.size + i → H'[q]? = H[q]?) (hc : ncOk w (B.size + i) c H') : CR w B (ns.set i c) H' := by
  refine ⟨by rw [hz, h.1, List.length_set], fun q hq => by rw [ho q (by omega)]; exact h.2.1 q hq, fun k d hk => ?_⟩
  rw [List.getElem?_set] at hk
  split at hk
  · rename_i e
    subst e
    split at hk
    · cases hk
      exact hc
    · cases hk
  · rename_i e
    exact (h.2.2 k d hk).kept (ho _ (by omega))
def AO2 (ao : Bool) (U : State) : Prop := ao = true → va_AO "OctagonYard$Piece" U ∧ va_AO "OctagonYard$Assembly" U
theorem AO2.warm {ao : Bool} {s U : State} (hW : s.WarmedH U.vm) (h : AO2 ao s) : AO2 ao U := fun e => ⟨(h e).1.moved hW.alike, (h e).2.moved hW.alike⟩
def QC (w : WX) (B : Heap) (post : List NC) : Array Value → State → Outcome → State → Prop := fun _ _ o t => o = .returned none ∧ CR w B post t.heap
/-- a constructor's contract: on the cell i of those made since B -/
def MC (ao : Bool) (d : Nat) (b : Nat × Nat) (mi : MI) (B : Heap) (i : Nat) (ns post : List NC) : Prop := ∀ (l : Launch) (w : WX), Met l mi.1 [.code mi.1 mi.2.1 mi.2.2.1 mi.2.2.2] { frames := d, cells := b.1, slots := b.2, locals := 40 * d } (va_Pc [.ref (B.size + i)] (fun U => EnvW w U ∧ AO2 ao U ∧ CR w B ns U.heap)) (QC w B post) b.1 b.2 (fun q => B.size ≤ q)
def lok0 (ls : Array Slot) (nL a : Nat) : Prop := ls.size = nL ∧ lv_wf ls ∧ ls[0]? = some (.val (.ref a))
def WC (ao : Bool) (d : Nat) (X : MX) (Y : MY) (b : Nat × Nat) (mi : MI) (pc : Nat) (B : Heap) (i : Nat) (st : List Value) (ns post : List NC) : Prop :=
  okX d X Y mi → AO2 ao X.2.2.2.2.1 → X.2.2.2.2.2.2.2.2.1.name = "<init>" → ∀ (H : Heap) (locs : List Loc) (ls : Array Slot) (cells slots : Nat), CR Y.1 B ns H → (∀ q ∈ locs, B.size ≤ q.base) → lok0 ls mi.2.2.1 (B.size + i) → cells + b.1 = X.2.2.2.1.cells → slots + b.2 = X.2.2.2.1.slots →
    W X.1 X.2.1 X.2.2.1 X.2.2.2.1 X.2.2.2.2.1 X.2.2.2.2.2.1 X.2.2.2.2.2.2.1 X.2.2.2.2.2.2.2.1 X.2.2.2.2.2.2.2.2.1 X.2.2.2.2.2.2.2.2.2 H locs cells slots
      (MQ X.2.2.2.2.2.2.2.1 (QC Y.1 B post) X.2.2.2.2.2.2.1 X.2.2.2.2.1 X.2.2.2.1.cells X.2.2.2.1.slots (fun q => B.size ≤ q)) (F0 X.2.2.2.2.2.1 pc ls st)
theorem MC.of {ao : Bool} {d : Nat} {b : Nat × Nat} {mi : MI} {B : Heap} {i : Nat} {ns post : List NC} (hy : plainFor mi.1 = true) (hn : mi.1.name = "<init>") (hl : Nat.ble 1 mi.2.2.1 = true) (k : ∀ (X : MX) (Y : MY), WC ao d X Y b mi 0 B i [] ns post) : MC ao d b mi B i ns post := by
  intro l w
  refine va_MetF (cc := mi.2.1) (maxL := mi.2.2.1) (ret := mi.2.2.2) hy rfl ?_
  intro p e s m args below meth c s₁ Bd hml hv
  obtain ⟨rfl, hE, hA, hR⟩ := hv
  have h1 := lv_entry [.ref (B.size + i)] (n := mi.2.2.1) (show 1 ≤ mi.2.2.1 from Nat.le_of_ble_eq_true hl)
  rw [lg_entry_eq]
  exact k (p, l, e, _, s, m, _, below, meth, c) (w, (fun _ _ => 0), ((fun _ _ _ => 0), 0, 0)) ⟨Bd.exec, Bd.bytes, Bd.returns, hml, findClass_of_methodNamed Bd.named, Bd.notSynchronized, hE, Nat.le_refl _, Nat.le_refl _⟩ hA ((name_of_methodNamed Bd.named Bd.method).1.trans hn) s.heap [] _ 0 0 hR (fun q h => by cases h) ⟨h1.1, h1.2.1, h1.2.2 _ List.mem_cons_self⟩ (Nat.zero_add _) (Nat.zero_add _)
section CROWS
variable {ao : Bool} {d : Nat} {X : MX} {Y : MY} {b b' bc : Nat × Nat} {mi mc : MI} {pc pc' : Nat} {B : Heap} {i : Nat} {st : List Value} {ns ns' post : List NC}
theorem c_load0 (hd : decode mi.2.1 pc = .ok (.aload_n 0, 1)) (hp : pc + 1 = pc') (k : WC ao d X Y b mi pc' B i (.ref (B.size + i) :: st) ns post) : WC ao d X Y b mi pc B i st ns post := by
  subst hp
  intro ok hA hn H locs ls cells slots hC hL hl hc hs
  exact lv_aload_n ok.1 ok.2.1 hd rfl hl.2.2 (k ok hA hn H locs ls cells slots hC hL hl hc hs)
theorem c_iconst {n : Int} {x : Int32} (hd : decode mi.2.1 pc = .ok (.iconst n, 1)) (hv : Int32.ofInt n = x) (hp : pc + 1 = pc') (k : WC ao d X Y b mi pc' B i (.int x :: st) ns post) : WC ao d X Y b mi pc B i st ns post := by
  subst hp
  intro ok hA hn H locs ls cells slots hC hL hl hc hs
  exact lv_iconst ok.1 ok.2.1 hd hv (k ok hA hn H locs ls cells slots hC hL hl hc hs)
theorem c_bipush {n : Int} {x : Int32} (hd : decode mi.2.1 pc = .ok (.bipush n, 2)) (hv : (Int8.ofInt n).toInt32 = x) (hp : pc + 2 = pc') (k : WC ao d X Y b mi pc' B i (.int x :: st) ns post) : WC ao d X Y b mi pc B i st ns post := by
  subst hp
  intro ok hA hn H locs ls cells slots hC hL hl hc hs
  exact lv_bipush ok.1 ok.2.1 hd hv (k ok hA hn H locs ls cells slots hC hL hl hc hs)
theorem c_sipush {n : Int} {x : Int32} (hd : decode mi.2.1 pc = .ok (.sipush n, 3)) (hv : (Int16.ofInt n).toInt32 = x) (hp : pc + 3 = pc') (k : WC ao d X Y b mi pc' B i (.int x :: st) ns post) : WC ao d X Y b mi pc B i st ns post := by
  subst hp
  intro ok hA hn H locs ls cells slots hC hL hl hc hs
  exact lv_sipush ok.1 ok.2.1 hd hv (k ok hA hn H locs ls cells slots hC hL hl hc hs)
theorem c_dup {v : Value} (hd : decode mi.2.1 pc = .ok (.dup, 1)) (hv : v.category = 1) (hp : pc + 1 = pc') (k : WC ao d X Y b mi pc' B i (v :: v :: st) ns post) : WC ao d X Y b mi pc B i (v :: st) ns post := by
  subst hp
  intro ok hA hn H locs ls cells slots hC hL hl hc hs
  exact lv_dup ok.1 ok.2.1 hd hv (k ok hA hn H locs ls cells slots hC hL hl hc hs)
/-- Object's own constructor -/
def CO (own : String) (idx : Nat) : Prop := Cond.methodLink own idx Lib.objectInit ∈ mtbl ∧ Cond.instanceMethod Lib.objectInit ∈ mtbl ∧ Cond.code Lib.objectInit ⟨#[0xb1]⟩ 1 none ∈ mtbl
theorem c_obj {idx : Nat} {a : Nat} (hw : CO mi.1.cls idx) (hd : decode mi.2.1 pc = .ok (.invokespecial idx, 3)) (hr : Nat.ble ((st.map fun v => v.category).sum) 8 = true) (hp : pc + 3 = pc') (k : WC ao (d + 1) X Y b mi pc' B i st ns post) : WC ao (d + 1) X Y b mi pc B i (.ref a :: st) ns post := by
  subst hp
  intro ok hA hn H locs ls cells slots hC hL hl hc hs
  have hr' := Nat.le_of_ble_eq_true hr
  exact W.objInit ok.1 ok.2.1 ok.own (ok.hts _ hw.1) (ok.hts _ hw.2.1) (ok.hts _ hw.2.2) rfl (by rw [ok.2.2.2.1]; exact hl.1) rfl hd (by have hlc := ok.2.2.2.2.2.2.2.1; omega) (by have hlc := ok.2.2.2.2.2.2.2.2; show 2 * 0 + _ + 12 ≤ _; omega) (k ok hA hn H locs ls cells slots hC hL hl hc hs)
theorem c_newarr {aty0 : ArrayType} {t N : Nat} {n : Int32} (hT : newarray.typeOf aty0 = aty t) (ht : t < 2) (hw : Cond.arrayClass (aty t) ∈ mtbl) (hd : decode mi.2.1 pc = .ok (.newarray aty0, 2)) (hn0 : ¬ n < 0) (hN : n.toNatClampNeg = N) (hby : N ≤ 1000) (hb1 : b.1 = 1 + b'.1) (hb2 : b.2 = N + b'.2) (hp : pc + 2 = pc') (k : WC ao d X Y b' mi pc' B i (.ref (B.size + ns.length) :: st) (ns ++ [.inr (t, N, fun _ => .int 0)]) post) : WC ao d X Y b mi pc B i (.int n :: st) ns post := by
  subst hp
  intro ok hA hn H locs ls cells slots hC hL hl hc hs
  have hw' := ok.hts _ hw
  rw [← hT] at hw'
  have hcb : componentBytes (newarray.typeOf aty0) ≤ 8 := by cases aty0 <;> decide
  have hdv : defaultValue (newarray.typeOf aty0) = .int 0 := by
    rw [hT]
    rcases (show t = 0 ∨ t = 1 by omega) with rfl | rfl <;> rfl
  have hmul : N * componentBytes (newarray.typeOf aty0) ≤ 8000 := by
    calc N * componentBytes (newarray.typeOf aty0) ≤ 1000 * 8 := Nat.mul_le_mul hby hcb
      _ = 8000 := rfl
  subst hN
  refine W.newa ok.1 ok.2.1 hw' rfl hd rfl hn0 (by omega) (by omega) (by omega) fun cA kA comp h1 h2 h3 => ?_
  have hcA : cA = Y.1.2.1 t := by
    have := (ok.env.2.2.1 t (by omega)).2
    have e : X.2.2.2.2.1.vm.findClass ("[" ++ (aty t).toString) = some (Y.1.2.1 t) := by
      rcases (show t = 0 ∨ t = 1 by omega) with rfl | rfl <;> exact this
    rw [hT] at h1
    exact Option.some.inj (h1.symm.trans e)
  subst hcA
  have hz : H.size = B.size + ns.length := hC.1
  rw [hz]
  refine k ok hA hn _ locs ls (cells + 1) (slots + n.toNatClampNeg) (hC.push (by simp) (fun q hq => by rw [Array.getElem?_push, if_neg (Nat.ne_of_lt hq)]) ?_) hL hl (by omega) (by omega)
  show (H.push _)[H.size]? = some _
  rw [Array.getElem?_push_size, arrV_new, hdv]
theorem c_anew {C : String} {idx t N : Nat} {n : Int32} (hao : ao = true) (hT : aty t = .object C) (ht : t = 2 ∨ t = 3) (hw : Cond.classLink mi.1.cls idx C ∈ mtbl) (hd : decode mi.2.1 pc = .ok (.anewarray idx, 3)) (hn0 : ¬ n < 0) (hN : n.toNatClampNeg = N) (hby : N ≤ 1000) (hb1 : b.1 = 1 + b'.1) (hb2 : b.2 = N + b'.2) (hp : pc + 3 = pc') (k : WC ao d X Y b' mi pc' B i (.ref (B.size + ns.length) :: st) (ns ++ [.inr (t, N, fun _ => .null)]) post) : WC ao d X Y b mi pc B i (.int n :: st) ns post := by
  subst hp
  intro ok hA hn H locs ls cells slots hC hL hl hc hs
  subst hN
  have hA1 : va_AO C X.2.2.2.2.1 := by
    rcases ht with rfl | rfl
    · cases hT
      exact (hA hao).1
    · cases hT
      exact (hA hao).2
  refine W.anew ok.1 ok.2.1 ok.own (ok.hts _ hw) (va_AO.use hA1) rfl hd rfl hn0 (by omega) (by omega) (by omega) fun cA kA comp h1 h2 h3 h4 => ?_
  have hcA : cA = Y.1.2.1 t := by
    have h5 := (ok.env.2.2.1 t (by omega)).2
    rw [hT] at h5
    obtain ⟨kA', comp', -, -, -, h6⟩ := h5
    exact Option.some.inj (h1.symm.trans h6)
  subst hcA
  have hz : H.size = B.size + ns.length := hC.1
  rw [hz]
  refine k ok hA hn _ locs ls (cells + 1) (slots + n.toNatClampNeg) (hC.push (by simp) (fun q hq => by rw [Array.getElem?_push, if_neg (Nat.ne_of_lt hq)]) ?_) hL hl (by omega) (by omega)
  show (H.push _)[H.size]? = some _
  rw [Array.getElem?_push_size, arrV_new]
/-- a new object: its class's words -/
def CB (own : String) (idx ci N : Nat) (fs : List Value) : Prop := ∃ (C : String) (T : u_T) (tf : Nat → FieldType), vwCl[ci]? = some (C, T, N) ∧ Cond.classLink own idx C ∈ mtbl ∧ Cond.instantiable C N ∈ mtbl ∧ Cond.initialized C ∈ mtbl ∧ (∀ w ∈ u_ws C T N, w ∈ mtbl) ∧ (∀ k, k < N → parseFieldDescriptor (T k).2.2.1 = some (tf k)) ∧ fs.length = N ∧ ∀ j, j < N → defaultValue (tf j) = vp_V fs j
theorem w_new {ci N idx : Nat} {fs : List Value} (hw : CB mi.1.cls idx ci N fs) (hd : decode mi.2.1 pc = .ok (.new idx, 3)) {H : Heap} {locs : List Loc} {ls : Array Slot} {cells slots : Nat} {Q : State → Prop} (ok : okX d X Y mi) (hc : cells + 1 ≤ X.2.2.2.1.cells) (hs : slots + N ≤ X.2.2.2.1.slots)
    (k : ∀ H' : Heap, H'.size = H.size + 1 → (∀ q, q < H.size → H'[q]? = H[q]?) → ncOk Y.1 H.size (.inl (ci, fs)) H' → W X.1 X.2.1 X.2.2.1 X.2.2.2.1 X.2.2.2.2.1 X.2.2.2.2.2.1 X.2.2.2.2.2.2.1 X.2.2.2.2.2.2.2.1 X.2.2.2.2.2.2.2.2.1 X.2.2.2.2.2.2.2.2.2 H' locs (cells + 1) (slots + N) Q (F0 X.2.2.2.2.2.1 (pc + 3) ls (.ref H.size :: st))) :
    W X.1 X.2.1 X.2.2.1 X.2.2.2.1 X.2.2.2.2.1 X.2.2.2.2.2.1 X.2.2.2.2.2.2.1 X.2.2.2.2.2.2.2.1 X.2.2.2.2.2.2.2.2.1 X.2.2.2.2.2.2.2.2.2 H locs cells slots Q (F0 X.2.2.2.2.2.1 pc ls st) := by
  obtain ⟨C, T, tf, hcl, hlk, hins, hini, hin, htf, hlen, hfs⟩ := hw
  have hKn := ok.env.2.1 ci _ hcl
  refine W.newcK ok.1 ok.2.1 ok.own (ok.hts _ hlk) (ok.hts _ hins) (ok.hts _ hini) rfl hd hc hs hKn.2.1 rfl fun H1 kC hkC e1 z1 o1 => ?_
  refine k H1 z1 o1 ?_
  show t_OB H.size (Y.1.1.1 ci) fs.length (Y.1.1.2 ci) H1 (vp_V fs)
  rw [hlen]
  exact (u_born tf ok.hts hin hKn hkC e1 htf).to hfs
theorem c_new {ci N idx : Nat} {fs : List Value} (hw : CB mi.1.cls idx ci N fs) (hd : decode mi.2.1 pc = .ok (.new idx, 3)) (hb1 : b.1 = 1 + b'.1) (hb2 : b.2 = N + b'.2) (hp : pc + 3 = pc') (k : WC ao d X Y b' mi pc' B i (.ref (B.size + ns.length) :: st) (ns ++ [.inl (ci, fs)]) post) : WC ao d X Y b mi pc B i st ns post := by
  subst hp
  intro ok hA hn H locs ls cells slots hC hL hl hc hs
  refine w_new hw hd ok (by omega) (by omega) fun H' z1 o1 c1 => ?_
  rw [show H.size = B.size + ns.length from hC.1]
  exact k ok hA hn H' locs ls (cells + 1) (slots + N) (hC.push z1 o1 c1) hL hl (by omega) (by omega)
/-- what a store into a field of a constructor's own class needs -/
def FI (ci N k : Nat) (ty : FieldType) : Prop := ∃ (C : String) (T : u_T) (tf : Nat → FieldType), vwCl[ci]? = some (C, T, N) ∧ parseFieldDescriptor (T k).2.2.1 = some ty ∧ (∀ k, k < N → parseFieldDescriptor (T k).2.2.1 = some (tf k)) ∧ ∀ a, a < N → ∀ b, b < N → a ≠ b → (T a).2.1 ≠ (T b).2.1
theorem c_put {j k ci N idx : Nat} {fs : List Value} {v : Value} {ty : FieldType} (hf : FL mi.1.cls idx ci N k) (hw : FI ci N k ty) (hown : (vwCl[ci]?).map (fun q => q.1) = some mi.1.cls) (hd : decode mi.2.1 pc = .ok (.putfield idx, 3)) (hj : ns[j]? = some (.inl (ci, fs))) (hlen : fs.length = N) (hn : narrow ty v = v) (hfit : fits ty v = true) (hp : pc + 3 = pc') (kk : WC ao d X Y b mi pc' B i st (ns.set j (.inl (ci, fs.set k v))) post) : WC ao d X Y b mi pc B i (v :: .ref (B.size + j) :: st) ns post := by
  subst hp
  intro ok hA hnm H locs ls cells slots hC hL hl hc hs
  obtain ⟨C, T, hcl, hk, hTC, hlink, hin⟩ := hf
  obtain ⟨C', T', tf, hcl', hty, htf, hnm2⟩ := hw
  cases hcl.symm.trans hcl'
  have hCo : C = mi.1.cls := by
    rw [hcl] at hown
    exact Option.some.inj hown
  have hcell := hC.2.2 j _ hj
  obtain ⟨cell, q1, q2, q3, q4⟩ := hcell
  have q4 : ∀ k, k < N → cell.slots[Y.1.1.2 ci k]? = some (vp_V fs k) := fun k hk => q4 k (by rw [hlen]; exact hk)
  have hK : va_K Y.1.1 vwCl [] X.2.2.2.2.1 := ⟨ok.env.2.1, fun k q h => by simp at h⟩
  have hap := va_apart (own := C) ok.hts hin tf htf hnm2 hK hcl
  obtain ⟨hS, hfc, kC, hkC, hkind⟩ := ok.env.2.1 ci _ hcl
  obtain ⟨cf, kf, fi, f, hi, hsl⟩ := hS _ hk
  have hst := (u_facts hfc hkC (u_lays ok.hts hin hk) hi).1
  have hcf : hasFlag f.accessFlags Acc.final = false ∨ (X.2.2.2.2.2.1.cls = cf ∧ X.2.2.2.2.2.2.2.2.1.name = "<init>") := by
    rcases u_lays ok.hts hin hk with hlay | hlay
    · obtain ⟨c, k, cf', kf', fi', fd', r1, r2, hi', hst', hfin, -⟩ := Cond.lays_spec hlay
      have := hi.symm.trans hi'
      simp at this
      obtain ⟨-, -, -, rfl⟩ := this
      exact Or.inl hfin
    · obtain ⟨_, _, c', _, _, _, -, -, hf', -, -, -, hown2, -⟩ := Cond.laysFinal_spec hlay
      have e1 : c' = cf := by have := hi.symm.trans hf'; simp at this; exact this.1.symm
      rw [hTC, hCo] at hown2
      exact Or.inr ⟨by rw [← e1]; exact Option.some.inj (ok.own.symm.trans hown2), hnm⟩
  have h6 := u_fits hfc hkC hkind (u_lays ok.hts hin hk) hi hty hn hfit
  have hlt : f.slot < cell.slots.size := by rw [hsl]; exact k2_hasslot (q4 k hk)
  have ha : B.size + j < H.size := (Array.getElem?_eq_some_iff.mp q1).1
  refine W.putf ok.1 ok.2.1 ok.own (ok.hts _ hlink) (by rw [← hTC]; exact hi) hst hcf q1 (by rw [q3]; exact fun h => by cases h) hlt h6.1 (by rw [q3, q2]; exact h6.2) rfl rfl hd ?_
  refine kk ok hA hnm _ _ ls cells slots (hC.set (by simp) (fun q hq => by simp [Array.getElem?_setIfInBounds, Ne.symm hq]) ?_) (fun q hq => ?_) hl hc hs
  · have e1 : (H.setIfInBounds (B.size + j) (cell.setSlot f.slot v))[B.size + j]? = some (cell.setSlot f.slot v) := by simp [Array.getElem?_setIfInBounds, ha]
    rw [hsl] at e1 ⊢
    show t_OB _ _ (fs.set k v).length _ _ _
    rw [List.length_set, hlen]
    exact t_OB.to (V := updV (vp_V fs) k v) ⟨_, e1, q2, q3, t_set q4 hap hk v⟩ (fun j _ => vp_updV_set (by rw [hlen]; exact hk) v j)
  · rcases List.mem_append.mp hq with h1 | h1
    · exact hL q h1
    · rw [List.mem_singleton.mp h1]
      exact Nat.le_add_right _ _
theorem c_get {j k ci N idx : Nat} {fs : List Value} {v : Value} (hf : FL mi.1.cls idx ci N k) (hd : decode mi.2.1 pc = .ok (.getfield idx, 3)) (hj : ns[j]? = some (.inl (ci, fs))) (hlen : fs.length = N) (hv : fs[k]? = some v) (hp : pc + 3 = pc') (kk : WC ao d X Y b mi pc' B i (v :: st) ns post) : WC ao d X Y b mi pc B i (.ref (B.size + j) :: st) ns post := by
  subst hp
  intro ok hA hnm H locs ls cells slots hC hL hl hc hs
  obtain ⟨C, T, hcl, hk, hTC, hlink, hin⟩ := hf
  obtain ⟨cell, q1, q2, q3, q4⟩ := hC.2.2 j _ hj
  obtain ⟨hS, hfc, kC, hkC, hkind⟩ := ok.env.2.1 ci _ hcl
  obtain ⟨cf, kf, fi, f, hi, hsl⟩ := hS _ hk
  have hst := (u_facts hfc hkC (u_lays ok.hts hin hk) hi).1
  refine W.getf ok.1 ok.2.1 ok.own (ok.hts _ hlink) (by rw [← hTC]; exact hi) hst q1 (by rw [q3]; exact fun h => by cases h) (v := v) ?_ rfl rfl hd (kk ok hA hnm H locs ls cells slots hC hL hl hc hs)
  rw [hsl, q4 k (by show k < fs.length; omega)]
  simp [vp_V, hv]
theorem c_iast {j n : Nat} {x y : Int32} {f : Nat → Value} (hd : decode mi.2.1 pc = .ok (.iastore, 1)) (hj : ns[j]? = some (.inr (0, n, f))) (hin : inr x n) (hp : pc + 1 = pc') (kk : WC ao d X Y b mi pc' B i st (ns.set j (.inr (0, n, updV f (ix x) (.int y)))) post) : WC ao d X Y b mi pc B i (.int y :: .int x :: .ref (B.size + j) :: st) ns post := by
  subst hp
  intro ok hA hnm H locs ls cells slots hC hL hl hc hs
  have hcell := hC.2.2 j _ hj
  refine W.iast ok.1 ok.2.1 hcell ((ok.env.2.2.1 0 (by decide)).1 n _) (fun q => by cases q) (by rw [arrV_size]; exact hin) rfl rfl hd fun H' e1 e2 e3 => ?_
  refine kk ok hA hnm H' _ ls cells slots (hC.set e2 e3 ?_) (fun q hq => ?_) hl hc hs
  · show H'[B.size + j]? = some _
    rw [e1, arrV_store]
  · rcases List.mem_append.mp hq with h1 | h1
    · exact hL q h1
    · rw [List.mem_singleton.mp h1]
      exact Nat.le_add_right _ _
theorem c_ret (hd : decode mi.2.1 pc = .ok (.return_, 1)) (hr : mi.2.2.2 = none) (he : ns = post) : WC ao d X Y b mi pc B i [] ns post := by
  subst he
  intro ok hA hnm H locs ls cells slots hC hL hl hc hs
  refine W.widen (show cells ≤ X.2.2.2.1.cells by omega) (show slots ≤ X.2.2.2.1.slots by omega) ?_
  exact W.vret ok.1 ok.2.1 (ok.2.2.1.trans hr) (fun t ht _ => ⟨rfl, by rw [ht]; exact hC⟩) hL hd ok.2.2.2.2.2.1
/-- a constructor's words: of a nest mate (private), or not private -/
def KN (own : String) (idx : Nat) (host : String) (mc : MI) : Prop := (Cond.methodLinkNest own idx mc.1 host ∈ mtbl ∧ Cond.instanceMethod mc.1 ∈ mtbl ∧ Cond.initialized mc.1.cls ∈ mtbl ∧ Cond.code mc.1 mc.2.1 mc.2.2.1 mc.2.2.2 ∈ mtbl) ∧ (mc.1.cls ≠ "java/lang/invoke/MethodHandle" ∧ mc.1.cls ≠ "java/lang/invoke/VarHandle" ∧ (parseMethodDescriptor mc.1.desc).map (fun d => d.parameters.length) = some 0) ∧ mc.2.2.1 ≤ 21 ∧ mc.1.name = "<init>" ∧ mc.2.2.2 = none
def KO (own : String) (idx : Nat) (mc : MI) : Prop := (Cond.methodLink own idx mc.1 ∈ mtbl ∧ Cond.instanceMethod mc.1 ∈ mtbl ∧ Cond.initialized mc.1.cls ∈ mtbl ∧ Cond.code mc.1 mc.2.1 mc.2.2.1 mc.2.2.2 ∈ mtbl) ∧ (mc.1.cls ≠ "java/lang/invoke/MethodHandle" ∧ mc.1.cls ≠ "java/lang/invoke/VarHandle" ∧ (parseMethodDescriptor mc.1.desc).map (fun d => d.parameters.length) = some 0) ∧ mc.2.2.1 ≤ 21 ∧ mc.1.name = "<init>" ∧ mc.2.2.2 = none
theorem preC_of {w : WX} {s : State} {B0 H : Heap} {j : Nat} (hE : EnvW w s) (hA : AO2 ao s) (hR : CR w B0 ns H) : PreS s H (va_Pc [.ref (B0.size + j)] (fun U => EnvW w U ∧ AO2 ao U ∧ CR w B0 ns U.heap)) (.ref (B0.size + j) :: []) :=
  ⟨fun a U g mk h => ⟨h.1, EnvW.calling h.2.1, AO2.warm (U := U.calling g mk a) (State.WarmedH.refl U) h.2.2.1, h.2.2.2⟩, fun U hU hW => ⟨rfl, hE.warm hW, hA.warm hW, by rw [hU]; exact hR⟩⟩
/-- the run of a constructor's call -/
theorem w_ctorN {idx j : Nat} {host : String} {B0 : Heap} {ns1 : List NC} (hw : KN mi.1.cls idx host mc) (hM : MC ao d bc mc B0 j ns ns1) (hd : decode mi.2.1 pc = .ok (.invokespecial idx, 3)) (ok : okX (d + 1) X Y mi) (hA : AO2 ao X.2.2.2.2.1) {H : Heap} {locs : List Loc} {ls : Array Slot} {cells slots : Nat} (hC : CR Y.1 B0 ns H) (hls : ls.size = mi.2.2.1) (hr : (st.map fun v => v.category).sum ≤ 8) (hc : cells + bc.1 ≤ X.2.2.2.1.cells) (hs : slots + bc.2 ≤ X.2.2.2.1.slots) :
    va_Run X.1 X.2.1 X.2.2.1 X.2.2.2.1 X.2.2.2.2.1 X.2.2.2.2.2.1 X.2.2.2.2.2.2.1 X.2.2.2.2.2.2.2.1 X.2.2.2.2.2.2.2.2.1 X.2.2.2.2.2.2.2.2.2 H locs cells slots bc.1 bc.2 (F0 X.2.2.2.2.2.1 pc ls (.ref (B0.size + j) :: st)) st (QC Y.1 B0 ns1 (Value.ref (B0.size + j) :: []).toArray) (fun q => B0.size ≤ q) := by
  obtain ⟨⟨w1, w2, w4, w5⟩, ⟨d1, d2, d3⟩, hL, hnm, hrt⟩ := hw
  rw [hrt] at w5
  have hM' := hM X.2.1 Y.1
  rw [hrt] at hM'
  exact va_runIN (Ts := mtbl) (bytes := mc.2.1) (maxL := mc.2.2.1) (n := 0) ⟨ok.1, ok.2.1, ok.2.2.2.1, ok.own, ok.hts⟩ hM'
    ⟨⟨⟨rfl, rfl, ok.2.2.2.2.2.2.2.1, by have hlc := ok.2.2.2.2.2.2.2.2; show 8 + (mc.2.2.1 + 11) + 40 * d ≤ _; omega, cw_ws (ok.hts _ w5), List.mem_singleton.mpr rfl⟩, ok.hts _ w5, ok.hts _ w4, ⟨d1, d2⟩, par_n d3, ok.hts _ w1⟩, hnm, ok.hts _ w2⟩
    (preC_of ok.env hA hC) rfl rfl hls rfl (lv_room hr) hd ⟨hc, hs⟩
theorem w_ctorO {idx j : Nat} {B0 : Heap} {ns1 : List NC} (hw : KO mi.1.cls idx mc) (hM : MC ao d bc mc B0 j ns ns1) (hd : decode mi.2.1 pc = .ok (.invokespecial idx, 3)) (ok : okX (d + 1) X Y mi) (hA : AO2 ao X.2.2.2.2.1) {H : Heap} {locs : List Loc} {ls : Array Slot} {cells slots : Nat} (hC : CR Y.1 B0 ns H) (hls : ls.size = mi.2.2.1) (hr : (st.map fun v => v.category).sum ≤ 8) (hc : cells + bc.1 ≤ X.2.2.2.1.cells) (hs : slots + bc.2 ≤ X.2.2.2.1.slots) :
    va_Run X.1 X.2.1 X.2.2.1 X.2.2.2.1 X.2.2.2.2.1 X.2.2.2.2.2.1 X.2.2.2.2.2.2.1 X.2.2.2.2.2.2.2.1 X.2.2.2.2.2.2.2.2.1 X.2.2.2.2.2.2.2.2.2 H locs cells slots bc.1 bc.2 (F0 X.2.2.2.2.2.1 pc ls (.ref (B0.size + j) :: st)) st (QC Y.1 B0 ns1 (Value.ref (B0.size + j) :: []).toArray) (fun q => B0.size ≤ q) := by
  obtain ⟨⟨w1, w2, w4, w5⟩, ⟨d1, d2, d3⟩, hL, hnm, hrt⟩ := hw
  rw [hrt] at w5
  have hM' := hM X.2.1 Y.1
  rw [hrt] at hM'
  exact va_runI (Ts := mtbl) (bytes := mc.2.1) (maxL := mc.2.2.1) (n := 0) ⟨ok.1, ok.2.1, ok.2.2.2.1, ok.own, ok.hts⟩ hM'
    ⟨⟨rfl, rfl, ok.2.2.2.2.2.2.2.1, by have hlc := ok.2.2.2.2.2.2.2.2; show 8 + (mc.2.2.1 + 11) + 40 * d ≤ _; omega, cw_ws (ok.hts _ w5), List.mem_singleton.mpr rfl, ok.hts _ w5, ok.hts _ w4, ⟨d1, d2⟩, par_n d3, ok.hts _ w1⟩, hnm, ok.hts _ w2⟩
    (preC_of ok.env hA hC) rfl rfl hls rfl (lv_room hr) hd ⟨hc, hs⟩
theorem c_call {j : Nat} {ns1 : List NC} (hb1 : b.1 = bc.1 + b'.1) (hb2 : b.2 = bc.2 + b'.2) (hr : Nat.ble ((st.map fun v => v.category).sum) 8 = true) (hp : pc + 3 = pc')
    (run : ∀ (_ : okX (d + 1) X Y mi) (_ : AO2 ao X.2.2.2.2.1) {H : Heap} {locs : List Loc} {ls : Array Slot} {cells slots : Nat} (_ : CR Y.1 B ns H) (_ : ls.size = mi.2.2.1) (_ : (st.map fun v => v.category).sum ≤ 8) (_ : cells + bc.1 ≤ X.2.2.2.1.cells) (_ : slots + bc.2 ≤ X.2.2.2.1.slots), va_Run X.1 X.2.1 X.2.2.1 X.2.2.2.1 X.2.2.2.2.1 X.2.2.2.2.2.1 X.2.2.2.2.2.2.1 X.2.2.2.2.2.2.2.1 X.2.2.2.2.2.2.2.2.1 X.2.2.2.2.2.2.2.2.2 H locs cells slots bc.1 bc.2 (F0 X.2.2.2.2.2.1 pc ls (.ref (B.size + j) :: st)) st (QC Y.1 B ns1 (Value.ref (B.size + j) :: []).toArray) (fun q => B.size ≤ q))
    (k : WC ao (d + 1) X Y b' mi pc' B i st ns1 post) : WC ao (d + 1) X Y b mi pc B i (.ref (B.size + j) :: st) ns post := by
  subst hp
  intro ok hA hnm H locs ls cells slots hC hL hl hc hs
  intro T hT Xs
  obtain ⟨v, st0, t, T', L, h0, X', hL', e1, e2, ⟨ho, hCR⟩, go⟩ := run ok hA hC hl.1 (Nat.le_of_ble_eq_true hr) (by omega) (by omega) T hT Xs
  cases ho
  obtain ⟨t2, s2, q2⟩ := k ok hA hnm T'.heap (locs ++ L) ls (cells + bc.1) (slots + bc.2) (by rw [e1]; exact hCR) (fun q hq => by
    rcases List.mem_append.mp hq with h1 | h1
    · exact hL q h1
    · exact hL' q h1) hl (by omega) (by omega) T' rfl X'
  exact ⟨t2, go t2 s2, q2⟩
end CROWS
