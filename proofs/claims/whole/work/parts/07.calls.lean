/-! ===== ends, contracts, calls ===== -/
section ENDS
variable {d : Nat} {X : MX} {Y : MY} {b : Nat × Nat} {mi : MI} {pc pc' : Nat} {lv : List (Option MV)} {st : List MV} {σ σ' : SS} {res : RES} {α : Type} {rr : α}
theorem qm_end {H : Heap} {locs : List Loc} {ls : Array Slot} {ad : Nat → Nat → Nat} {cells slots : Nat} {R : Room} {v : MV} {nL : Nat} (h : Dyn R Y b nL lv (v :: st) σ ad H locs ls cells slots) {t : State} (ht : t.heap = H) {as : Array Value} {s : State} : Qm Y (some v, σ) as s (.returned (some (cv ad v))) t :=
  ⟨ad, rfl, by rw [ht]; exact h.1, h.2.1, fun u hu => by cases hu; exact hh1 h.hst⟩
theorem dyn_room {H : Heap} {locs : List Loc} {ls : Array Slot} {ad : Nat → Nat → Nat} {cells slots : Nat} {R : Room} {nL : Nat} (h : Dyn R Y b nL lv st σ ad H locs ls cells slots) : cells ≤ R.cells ∧ slots ≤ R.slots := by
  have h1 := h.2.2.2.2.2.2.1
  have h2 := h.2.2.2.2.2.2.2
  omega
theorem r_iret {x r : Int32} (hd : decode mi.2.1 pc = .ok (.ireturn, 1)) (hr : mi.2.2.2 = some .int) (h : some (x, σ) = some (r, σ')) : WM d X Y b mi pc lv [vI x] σ (some (vI r), σ') := by
  cases h
  intro ok ad H locs ls cells slots hD
  refine W.widen (dyn_room hD).1 (dyn_room hD).2 ?_
  exact W.iret ok.1 ok.2.1 (ok.2.2.1.trans hr) (fun t ht _ => qm_end hD ht) hD.2.2.1 hd ok.2.2.2.2.2.1
theorem r_zret {x r : Int32} (hd : decode mi.2.1 pc = .ok (.ireturn, 1)) (hr : mi.2.2.2 = some .boolean) (hz : x = 0 ∨ x = 1) (h : some (x, σ) = some (r, σ')) : WM d X Y b mi pc lv [vI x] σ (some (vI r), σ') := by
  cases h
  intro ok ad H locs ls cells slots hD
  refine W.widen (dyn_room hD).1 (dyn_room hD).2 ?_
  exact W.zret ok.1 ok.2.1 (ok.2.2.1.trans hr) (narrow_z hz) (fun t ht _ => qm_end hD ht) hD.2.2.1 hd ok.2.2.2.2.2.1
theorem r_lret {x r : Int64} (hd : decode mi.2.1 pc = .ok (.lreturn, 1)) (hr : mi.2.2.2 = some .long) (h : some (x, σ) = some (r, σ')) : WM d X Y b mi pc lv [vL x] σ (some (vL r), σ') := by
  cases h
  intro ok ad H locs ls cells slots hD
  refine W.widen (dyn_room hD).1 (dyn_room hD).2 ?_
  exact W.lret ok.1 ok.2.1 (ok.2.2.1.trans hr) (fun t ht _ => qm_end hD ht) hD.2.2.1 hd ok.2.2.2.2.2.1
theorem r_vret {r : Unit} (hd : decode mi.2.1 pc = .ok (.return_, 1)) (hr : mi.2.2.2 = none) (h : some ((), σ) = some (r, σ')) : WM d X Y b mi pc lv [] σ (none, σ') := by
  cases h
  intro ok ad H locs ls cells slots hD
  refine W.widen (dyn_room hD).1 (dyn_room hD).2 ?_
  exact W.vret ok.1 ok.2.1 (ok.2.2.1.trans hr) (fun t ht _ => ⟨ad, rfl, by rw [ht]; exact hD.1, hD.2.1, fun u hu => by cases hu⟩) hD.2.2.1 hd ok.2.2.2.2.2.1
theorem r_aret {k : Nat} {x r : Option Nat} {C : String} (hd : decode mi.2.1 pc = .ok (.areturn, 1)) (hr : mi.2.2.2 = some (.object C)) (h : some (x, σ) = some (r, σ')) : WM d X Y b mi pc lv [vO k x] σ (some (vO k r), σ') := by
  cases h
  intro ok ad H locs ls cells slots hD
  refine W.widen (dyn_room hD).1 (dyn_room hD).2 ?_
  refine W.aret ok.1 ok.2.1 (ok.2.2.1.trans hr) (Or.inl ⟨_, rfl⟩) ?_ (fun t ht _ => qm_end hD ht) hD.2.2.1 hd ok.2.2.2.2.2.1
  cases x with
  | none => exact Or.inl rfl
  | some i => exact Or.inr ⟨_, rfl⟩
end ENDS
/-- a method's contract -/
def MM (d : Nat) (b : Nat × Nat) (mi : MI) (as : List MV) (σ : SS) (res : RES) : Prop := ∀ (l : Launch) (w : WX) (ad : Nat → Nat → Nat), Met l mi.1 [.code mi.1 mi.2.1 mi.2.2.1 mi.2.2.2] { frames := d, cells := b.1, slots := b.2, locals := 40 * d } (va_Pc (as.map (cv ad)) (fun U => EnvW w U ∧ Rel w ad σ U.heap ∧ ∀ v ∈ as, hal σ v)) (Qm (w, ad, σ) res) b.1 b.2 (fun q => w.2.2.1.size ≤ q)
def entA : List MV → List (Option MV)
  | [] => []
  | .inr (.inl x) :: r => some (vL x) :: none :: entA r
  | .inl x :: r => some (vI x) :: entA r
  | .inr (.inr q) :: r => some (.inr (.inr q)) :: entA r
def ent (as : List MV) (n : Nat) : List (Option MV) := entA as ++ List.replicate (n - (entA as).length) none
theorem entA_mem {v : MV} : ∀ (as : List MV), some v ∈ entA as → v ∈ as
  | [], h => by cases h
  | .inr (.inl x) :: r, h => by
    rcases List.mem_cons.mp h with e | e
    · cases e
      exact List.mem_cons_self
    · rcases List.mem_cons.mp e with e | e
      · cases e
      · exact List.mem_cons_of_mem _ (entA_mem r e)
  | .inl x :: r, h => by
    rcases List.mem_cons.mp h with e | e
    · cases e
      exact List.mem_cons_self
    · exact List.mem_cons_of_mem _ (entA_mem r e)
  | .inr (.inr q) :: r, h => by
    rcases List.mem_cons.mp h with e | e
    · cases e
      exact List.mem_cons_self
    · exact List.mem_cons_of_mem _ (entA_mem r e)
theorem entA_args {ad : Nat → Nat → Nat} {v : MV} : ∀ (as : List MV) (j i : Nat), (entA as)[i]? = some (some v) → (j + i, cv ad v) ∈ lv_args j (as.map (cv ad))
  | [], j, i, h => by simp [entA] at h
  | .inr (.inl x) :: r, j, 0, h => by
    cases h
    exact List.mem_cons_self
  | .inr (.inl x) :: r, j, 1, h => by cases h
  | .inr (.inl x) :: r, j, i + 2, h => by
    have := entA_args (ad := ad) r (j + 2) i h
    rw [show j + (i + 2) = j + 2 + i by omega]
    exact List.mem_cons_of_mem _ this
  | .inl x :: r, j, 0, h => by
    cases h
    exact List.mem_cons_self
  | .inl x :: r, j, i + 1, h => by
    have := entA_args (ad := ad) r (j + 1) i h
    rw [show j + (i + 1) = j + 1 + i by omega]
    exact List.mem_cons_of_mem _ this
  | .inr (.inr none) :: r, j, 0, h => by
    cases h
    exact List.mem_cons_self
  | .inr (.inr none) :: r, j, i + 1, h => by
    have := entA_args (ad := ad) r (j + 1) i h
    rw [show j + (i + 1) = j + 1 + i by omega]
    exact List.mem_cons_of_mem _ this
  | .inr (.inr (some q)) :: r, j, 0, h => by
    cases h
    exact List.mem_cons_self
  | .inr (.inr (some q)) :: r, j, i + 1, h => by
    have := entA_args (ad := ad) r (j + 1) i h
    rw [show j + (i + 1) = j + 1 + i by omega]
    exact List.mem_cons_of_mem _ this
theorem entA_len {ad : Nat → Nat → Nat} : ∀ (as : List MV), (lg_sl (as.map (cv ad))).length = (entA as).length
  | [] => rfl
  | .inr (.inl x) :: r => by
    have := entA_len (ad := ad) r
    simp only [lg_sl, List.map_cons, List.flatMap_cons, List.length_append] at this ⊢
    rw [this]
    show 2 + _ = _
    simp only [entA, List.length_cons]
    omega
  | .inl x :: r => by
    have := entA_len (ad := ad) r
    simp only [lg_sl, List.map_cons, List.flatMap_cons, List.length_append] at this ⊢
    rw [this]
    show 1 + _ = _
    simp only [entA, List.length_cons]
    omega
  | .inr (.inr none) :: r => by
    have := entA_len (ad := ad) r
    simp only [lg_sl, List.map_cons, List.flatMap_cons, List.length_append] at this ⊢
    rw [this]
    show 1 + _ = _
    simp only [entA, List.length_cons]
    omega
  | .inr (.inr (some q)) :: r => by
    have := entA_len (ad := ad) r
    simp only [lg_sl, List.map_cons, List.flatMap_cons, List.length_append] at this ⊢
    rw [this]
    show 1 + _ = _
    simp only [entA, List.length_cons]
    omega
theorem MM.of {d : Nat} {b : Nat × Nat} {mi : MI} {as : List MV} {σ : SS} {res : RES} {lv : List (Option MV)} (hy : plainFor mi.1 = true) (he : ent as mi.2.2.1 = lv) (hn : Nat.ble (entA as).length mi.2.2.1 = true) (k : ∀ (X : MX) (Y : MY), WM d X Y b mi 0 lv [] σ res) : MM d b mi as σ res := by
  subst he
  intro l w ad
  refine va_MetF (cc := mi.2.1) (maxL := mi.2.2.1) (ret := mi.2.2.2) hy rfl ?_
  intro p e s m args below meth c s₁ B hml hv
  obtain ⟨rfl, hE, hR, hh⟩ := hv
  rw [lg_entry_eq]
  have hlen : (lg_sl (as.map (cv ad))).length ≤ mi.2.2.1 := by rw [entA_len]; simpa using hn
  have hl := lv_entry (as.map (cv ad)) hlen
  refine k (p, l, e, _, s, m, _, below, meth, c) (w, ad, σ) ⟨B.exec, B.bytes, B.returns, hml, findClass_of_methodNamed B.named, B.notSynchronized, hE, Nat.le_refl _, Nat.le_refl _⟩ ad s.heap [] _ 0 0 ⟨hR, fun r i h => ⟨h, rfl⟩, fun q h => by (cases h), ⟨hl.1, hl.2.1, fun i v hi => ?_⟩, fun v hv => ?_, fun v h => by (cases h), Nat.zero_add _, Nat.zero_add _⟩
  · refine hl.2.2 (i, cv ad v) ?_
    unfold ent at hi
    rw [List.getElem?_append] at hi
    split at hi
    · have := entA_args (ad := ad) as 0 i hi
      rwa [Nat.zero_add] at this
    · rw [List.getElem?_replicate] at hi
      split at hi <;> cases hi
  · unfold ent at hv
    rcases List.mem_append.mp hv with h1 | h1
    · exact hh v (entA_mem as h1)
    · exact absurd (List.eq_of_mem_replicate h1) (by simp)
def catS (st : List MV) : Nat := (st.map (fun v => if c1 v then 1 else 2)).sum
theorem catS_eq {ad : Nat → Nat → Nat} : ∀ (st : List MV), ((st.map (cv ad)).map fun v => v.category).sum = catS st
  | [] => rfl
  | v :: st => by
    have := catS_eq (ad := ad) st
    simp only [catS, List.map_cons, List.sum_cons] at this ⊢
    rw [this]
    congr 1
    match v with
    | .inl _ => rfl
    | .inr (.inl _) => rfl
    | .inr (.inr none) => rfl
    | .inr (.inr (some _)) => rfl
theorem cv_agree {σ : SS} {ad ad' : Nat → Nat → Nat} (h : ∀ r i, alv σ r i → ad' r i = ad r i) : ∀ {v : MV}, hal σ v → cv ad' v = cv ad v
  | .inl _, _ => rfl
  | .inr (.inl _), _ => rfl
  | .inr (.inr none), _ => rfl
  | .inr (.inr (some q)), hv => by
    show Value.ref _ = Value.ref _
    rw [h q.1 q.2 hv]
theorem hal_mono {σ σ' : SS} (h : ∀ r i, alv σ r i → alv σ' r i) : ∀ {v : MV}, hal σ v → hal σ' v
  | .inl _, _ => trivial
  | .inr (.inl _), _ => trivial
  | .inr (.inr none), _ => trivial
  | .inr (.inr (some q)), hv => h q.1 q.2 hv
theorem map_agree {σ : SS} {ad ad' : Nat → Nat → Nat} (h : ∀ r i, alv σ r i → ad' r i = ad r i) {st : List MV} (hs : ∀ v ∈ st, hal σ v) : st.map (cv ad') = st.map (cv ad) := List.map_congr_left (fun v hv => cv_agree h (hs v hv))
section CALLS
variable {d : Nat} {X : MX} {Y : MY} {b b' bc : Nat × Nat} {mi mc : MI} {pc pc' : Nat} {lv : List (Option MV)} {st : List MV} {σ σ' : SS} {res : RES} {α : Type} {rr : α}
/-- behind a call -/
theorem WM.back {rv : Option MV} {as : List MV} {g0 : List MV} (ok : okX d X Y mi) {ad : Nat → Nat → Nat} {H : Heap} {locs : List Loc} {ls : Array Slot} {cells slots : Nat} (hD : Dyn X.2.2.2.1 Y b mi.2.2.1 lv (g0 ++ st) σ ad H locs ls cells slots) (hb1 : b.1 = bc.1 + b'.1) (hb2 : b.2 = bc.2 + b'.2)
    (run : va_Run X.1 X.2.1 X.2.2.1 X.2.2.2.1 X.2.2.2.2.1 X.2.2.2.2.2.1 X.2.2.2.2.2.2.1 X.2.2.2.2.2.2.2.1 X.2.2.2.2.2.2.2.2.1 X.2.2.2.2.2.2.2.2.2 H locs cells slots bc.1 bc.2 (F0 X.2.2.2.2.2.1 pc ls ((g0 ++ st).map (cv ad))) (st.map (cv ad)) (Qm (Y.1, ad, σ) (rv, σ') (as.map (cv ad)).toArray) (fun q => Y.1.2.2.1.size ≤ q))
    (k : WM d X Y b' mi (pc + 3) lv (rv.toList ++ st) σ' res) : W X.1 X.2.1 X.2.2.1 X.2.2.2.1 X.2.2.2.2.1 X.2.2.2.2.2.1 X.2.2.2.2.2.2.1 X.2.2.2.2.2.2.2.1 X.2.2.2.2.2.2.2.2.1 X.2.2.2.2.2.2.2.2.2 H locs cells slots
      (MQ X.2.2.2.2.2.2.2.1 (Qm Y res) X.2.2.2.2.2.2.1 X.2.2.2.2.1 X.2.2.2.1.cells X.2.2.2.1.slots (fun q => Y.1.2.2.1.size ≤ q)) (F0 X.2.2.2.2.2.1 pc ls ((g0 ++ st).map (cv ad))) := by
  intro T hT Xs
  obtain ⟨v, st0, t, T', L, h0, X', hL, e1, e2, ⟨ad', ho, hR', hag, hres⟩, go⟩ := run T hT Xs
  have hst : ∀ v ∈ st, hal σ v := fun v hv => hD.hst v (List.mem_append_right _ hv)
  have hm : ∀ r i, alv σ r i → alv σ' r i := fun r i h => (hag r i h).1
  have ha : ∀ r i, alv σ r i → ad' r i = ad r i := fun r i h => (hag r i h).2
  have hdyn : Dyn X.2.2.2.1 Y b' mi.2.2.1 lv (rv.toList ++ st) σ' ad' T'.heap (locs ++ L) ls (cells + bc.1) (slots + bc.2) := by
    refine ⟨by rw [e1]; exact hR', fun r i h => ?_, fun q hq => ?_, ⟨hD.lv.1, hD.lv.2.1, fun i v hi => ?_⟩, fun v hv => hal_mono hm (hD.hlv v hv), fun v hv => ?_, ?_, ?_⟩
    · have h1 := hD.2.1 r i h
      exact ⟨hm r i h1.1, (ha r i h1.1).trans h1.2⟩
    · rcases List.mem_append.mp hq with h1 | h1
      · exact hD.2.2.1 q h1
      · exact hL q h1
    · rw [cv_agree ha (hD.hlv v (List.mem_of_getElem? hi))]
      exact hD.lv.2.2 i v hi
    · rcases List.mem_append.mp hv with h1 | h1
      · exact hres v (by simpa using h1)
      · exact hal_mono hm (hst v h1)
    · have := hD.2.2.2.2.2.2.1
      show cells + bc.1 + b'.1 = _
      omega
    · have := hD.2.2.2.2.2.2.2
      show slots + bc.2 + b'.2 = _
      omega
  obtain ⟨t2, s2, q2⟩ := k ok ad' T'.heap (locs ++ L) ls _ _ hdyn T' rfl X'
  refine ⟨t2, go t2 ?_, q2⟩
  have hv : v = rv.map (cv ad') := by cases ho; rfl
  have hf : (F0 X.2.2.2.2.2.1 (pc + 3) ls ((rv.toList ++ st).map (cv ad')) : JFrame) = { (F0 X.2.2.2.2.2.1 pc ls ((g0 ++ st).map (cv ad)) : JFrame) with pc := pc + 3, stack := v.toList ++ st.map (cv ad) } := by
    rw [hv, List.map_append, map_agree ha hst]
    cases rv <;> rfl
  rw [← hf]
  exact s2
/-- a call's words: an instance method -/
def CV (own : String) (idx : Nat) (mc : MI) (n : Nat) : Prop := (Cond.methodLink own idx mc.1 ∈ mtbl ∧ Cond.instanceMethod mc.1 ∈ mtbl ∧ Cond.selects mc.1.cls mc.1 mc.1 ∈ mtbl ∧ Cond.initialized mc.1.cls ∈ mtbl ∧ Cond.code mc.1 mc.2.1 mc.2.2.1 mc.2.2.2 ∈ mtbl) ∧ (mc.1.cls ≠ "java/lang/invoke/MethodHandle" ∧ mc.1.cls ≠ "java/lang/invoke/VarHandle" ∧ (parseMethodDescriptor mc.1.desc).map (fun d => d.parameters.length) = some n) ∧ mc.2.2.1 ≤ 21
/-- a static method of its own class, or of any -/
def CT (own : String) (idx : Nat) (mc : MI) (n : Nat) : Prop := (Cond.methodLink own idx mc.1 ∈ mtbl ∧ Cond.static mc.1 ∈ mtbl ∧ Cond.initialized mc.1.cls ∈ mtbl ∧ Cond.code mc.1 mc.2.1 mc.2.2.1 mc.2.2.2 ∈ mtbl) ∧ (mc.1.cls ≠ "java/lang/invoke/MethodHandle" ∧ mc.1.cls ≠ "java/lang/invoke/VarHandle" ∧ (parseMethodDescriptor mc.1.desc).map (fun d => d.parameters.length) = some n) ∧ mc.2.2.1 ≤ 21
/-- a private static method of a nest mate -/
def CN (own : String) (idx : Nat) (host : String) (mc : MI) (n : Nat) : Prop := (Cond.methodLinkNest own idx mc.1 host ∈ mtbl ∧ Cond.static mc.1 ∈ mtbl ∧ Cond.initialized mc.1.cls ∈ mtbl ∧ Cond.code mc.1 mc.2.1 mc.2.2.1 mc.2.2.2 ∈ mtbl) ∧ (mc.1.cls ≠ "java/lang/invoke/MethodHandle" ∧ mc.1.cls ≠ "java/lang/invoke/VarHandle" ∧ (parseMethodDescriptor mc.1.desc).map (fun d => d.parameters.length) = some n) ∧ mc.2.2.1 ≤ 21
theorem cw_ws {s : State} {args : Array Value} {y : MethodName} {cc : ByteArray} {n : Nat} {rt : Option FieldType} (h : (Cond.code y cc n rt).before args s = true) : ∀ w ∈ [Cond.code y cc n rt], ∀ (a' : Array Value) (U : State), s.WarmedH U.vm → w.before a' U = true := fun w hw a' U hW => by
  rw [List.mem_singleton.mp hw]
  exact word_at hW (Or.inl rfl) h
theorem par_n {D : String} {n : Nat} (h : (parseMethodDescriptor D).map (fun d => d.parameters.length) = some n) : ∀ sig, parseMethodDescriptor D = some sig → n = sig.parameters.length := fun sig hs => by
  rw [hs] at h
  exact (Option.some.inj h).symm
theorem pre_of {w : WX} {ad : Nat → Nat → Nat} {s : State} {as : List MV} {H : Heap} (hE : EnvW w s) (hR : Rel w ad σ H) (hh : ∀ v ∈ as, hal σ v) : FrameBlind (va_Pc (as.map (cv ad)) (fun U => EnvW w U ∧ Rel w ad σ U.heap ∧ ∀ v ∈ as, hal σ v)) ∧ ∀ U : State, U.heap = H → s.WarmedH U.vm → va_Pc (as.map (cv ad)) (fun U => EnvW w U ∧ Rel w ad σ U.heap ∧ ∀ v ∈ as, hal σ v) (as.map (cv ad)).toArray U :=
  ⟨fun a U g mk h => ⟨h.1, EnvW.calling h.2.1, h.2.2.1, h.2.2.2⟩, fun U hU hW => ⟨rfl, hE.warm hW, by rw [hU]; exact hR, hh⟩⟩

theorem r_callv_i {r i ci N idx n : Nat} {as : List MV} {F : Option (Int32 × SS)} {K : Int32 → SS → Option α} (hw : CV mi.1.cls idx mc n) (hd : decode mi.2.1 pc = .ok (.invokevirtual idx, 3)) (hrg : rg r = some (.inl ci, N)) (hcl : (vwCl[ci]?).map (fun q => q.1) = some mc.1.cls) (hn : as.length = n) (hs : Nat.ble (catS st) 8 = true) (hb1 : b.1 = bc.1 + b'.1) (hb2 : b.2 = bc.2 + b'.2) (hp : pc + 3 = pc') (h : cal F K = some rr) (hM : ∀ q σ', F = some (q, σ') → MM d bc mc (vR r i :: as) σ (some (vI q), σ')) (k : ∀ q σ', K q σ' = some rr → WM (d + 1) X Y b' mi pc' lv (vI q :: st) σ' res) : WM (d + 1) X Y b mi pc lv (as.reverse ++ vR r i :: st) σ res := by
  subst hp
  obtain ⟨q, σ', hF, hK⟩ := cal_t h
  have hM := hM q σ' hF
  have kk := k q σ' hK
  intro ok ad H locs ls cells slots hD
  obtain ⟨⟨w1, w2, w3, w4, w5⟩, ⟨d1, d2, d3⟩, hL⟩ := hw
  have hg : gal σ r i := gal_of (hh1 (fun v hv => hD.hst v (List.mem_append_right _ hv))) hrg
  have hh : ∀ v ∈ vR r i :: as, hal σ v := fun v hv => by
    rcases List.mem_cons.mp hv with e | e
    · rw [e]
      exact Or.inl hg
    · exact hD.hst v (List.mem_append_left _ (List.mem_reverse.mpr e))
  obtain ⟨pb, pc0⟩ := pre_of ok.env hD.1 hh
  have hcc := (hD.1.2.2.1 r i hg).2
  unfold cellOk at hcc
  rw [hrg] at hcc
  obtain ⟨cell, q1, q2, q3, q4⟩ := hcc
  obtain ⟨⟨C, T, N'⟩, hcq, hce⟩ := Option.map_eq_some_iff.mp hcl
  have hfc := (ok.env.2.1 ci _ hcq).2.1
  have hrun := va_runV (As := as.map (cv ad)) (rest := st.map (cv ad)) (g := F0 X.2.2.2.2.2.1 pc ls ((as.reverse ++ vR r i :: st).map (cv ad))) (locs := locs) (cells := cells) (slots := slots) (Ts := mtbl) (C := mc.1.cls) (bytes := mc.2.1) (maxL := mc.2.2.1) (ret := mc.2.2.2) (n := n) (H := H) (below := X.2.2.2.2.2.2.2.1) (meth := X.2.2.2.2.2.2.2.2.1) (e := X.2.2.1) (R := X.2.2.2.1) (b := ad r i)
    ⟨ok.1, ok.2.1, ok.2.2.2.1, ok.own, ok.hts⟩ (hM X.2.1 Y.1 ad)
    ⟨⟨rfl, rfl, ok.2.2.2.2.2.2.2.1, by have hlc := ok.2.2.2.2.2.2.2.2; show 8 + (mc.2.2.1 + 11) + 40 * d ≤ _; omega, cw_ws (ok.hts _ w5), List.mem_singleton.mpr rfl, ok.hts _ w5, ok.hts _ w4, ⟨d1, d2⟩, par_n d3, ok.hts _ w1⟩, ok.hts _ w2, ok.hts _ w3⟩
    ⟨pb, ⟨cell, q1, by rw [q3]; rfl, by rw [q2, ← hce]; exact hfc⟩, pc0⟩ rfl (by rw [List.length_map]; exact hn) hD.lv.1 (by show List.map _ _ = _; rw [List.map_append, List.map_reverse]; rfl) (by rw [catS_eq]; show 2 * 0 + catS st ≤ 8; have := Nat.le_of_ble_eq_true hs; omega) hd
    (by
      have h1 := hD.2.2.2.2.2.2.1
      have h2 := hD.2.2.2.2.2.2.2
      exact ⟨by omega, by omega⟩)
  rw [show as.reverse ++ vR r i :: st = (as.reverse ++ [vR r i]) ++ st by simp] at hrun hD ⊢
  exact WM.back (rv := some (vI q)) (as := vR r i :: as) ok hD hb1 hb2 hrun kk
theorem r_callv_l {r i ci N idx n : Nat} {as : List MV} {F : Option (Int64 × SS)} {K : Int64 → SS → Option α} (hw : CV mi.1.cls idx mc n) (hd : decode mi.2.1 pc = .ok (.invokevirtual idx, 3)) (hrg : rg r = some (.inl ci, N)) (hcl : (vwCl[ci]?).map (fun q => q.1) = some mc.1.cls) (hn : as.length = n) (hs : Nat.ble (catS st) 8 = true) (hb1 : b.1 = bc.1 + b'.1) (hb2 : b.2 = bc.2 + b'.2) (hp : pc + 3 = pc') (h : cal F K = some rr) (hM : ∀ q σ', F = some (q, σ') → MM d bc mc (vR r i :: as) σ (some (vL q), σ')) (k : ∀ q σ', K q σ' = some rr → WM (d + 1) X Y b' mi pc' lv (vL q :: st) σ' res) : WM (d + 1) X Y b mi pc lv (as.reverse ++ vR r i :: st) σ res := by
  subst hp
  obtain ⟨q, σ', hF, hK⟩ := cal_t h
  have hM := hM q σ' hF
  have kk := k q σ' hK
  intro ok ad H locs ls cells slots hD
  obtain ⟨⟨w1, w2, w3, w4, w5⟩, ⟨d1, d2, d3⟩, hL⟩ := hw
  have hg : gal σ r i := gal_of (hh1 (fun v hv => hD.hst v (List.mem_append_right _ hv))) hrg
  have hh : ∀ v ∈ vR r i :: as, hal σ v := fun v hv => by
    rcases List.mem_cons.mp hv with e | e
    · rw [e]
      exact Or.inl hg
    · exact hD.hst v (List.mem_append_left _ (List.mem_reverse.mpr e))
  obtain ⟨pb, pc0⟩ := pre_of ok.env hD.1 hh
  have hcc := (hD.1.2.2.1 r i hg).2
  unfold cellOk at hcc
  rw [hrg] at hcc
  obtain ⟨cell, q1, q2, q3, q4⟩ := hcc
  obtain ⟨⟨C, T, N'⟩, hcq, hce⟩ := Option.map_eq_some_iff.mp hcl
  have hfc := (ok.env.2.1 ci _ hcq).2.1
  have hrun := va_runV (As := as.map (cv ad)) (rest := st.map (cv ad)) (g := F0 X.2.2.2.2.2.1 pc ls ((as.reverse ++ vR r i :: st).map (cv ad))) (locs := locs) (cells := cells) (slots := slots) (Ts := mtbl) (C := mc.1.cls) (bytes := mc.2.1) (maxL := mc.2.2.1) (ret := mc.2.2.2) (n := n) (H := H) (below := X.2.2.2.2.2.2.2.1) (meth := X.2.2.2.2.2.2.2.2.1) (e := X.2.2.1) (R := X.2.2.2.1) (b := ad r i)
    ⟨ok.1, ok.2.1, ok.2.2.2.1, ok.own, ok.hts⟩ (hM X.2.1 Y.1 ad)
    ⟨⟨rfl, rfl, ok.2.2.2.2.2.2.2.1, by have hlc := ok.2.2.2.2.2.2.2.2; show 8 + (mc.2.2.1 + 11) + 40 * d ≤ _; omega, cw_ws (ok.hts _ w5), List.mem_singleton.mpr rfl, ok.hts _ w5, ok.hts _ w4, ⟨d1, d2⟩, par_n d3, ok.hts _ w1⟩, ok.hts _ w2, ok.hts _ w3⟩
    ⟨pb, ⟨cell, q1, by rw [q3]; rfl, by rw [q2, ← hce]; exact hfc⟩, pc0⟩ rfl (by rw [List.length_map]; exact hn) hD.lv.1 (by show List.map _ _ = _; rw [List.map_append, List.map_reverse]; rfl) (by rw [catS_eq]; show 2 * 0 + catS st ≤ 8; have := Nat.le_of_ble_eq_true hs; omega) hd
    (by
      have h1 := hD.2.2.2.2.2.2.1
      have h2 := hD.2.2.2.2.2.2.2
      exact ⟨by omega, by omega⟩)
  rw [show as.reverse ++ vR r i :: st = (as.reverse ++ [vR r i]) ++ st by simp] at hrun hD ⊢
  exact WM.back (rv := some (vL q)) (as := vR r i :: as) ok hD hb1 hb2 hrun kk
theorem r_callv_v {r i ci N idx n : Nat} {as : List MV} {F : Option (Unit × SS)} {K : Unit → SS → Option α} (hw : CV mi.1.cls idx mc n) (hd : decode mi.2.1 pc = .ok (.invokevirtual idx, 3)) (hrg : rg r = some (.inl ci, N)) (hcl : (vwCl[ci]?).map (fun q => q.1) = some mc.1.cls) (hn : as.length = n) (hs : Nat.ble (catS st) 8 = true) (hb1 : b.1 = bc.1 + b'.1) (hb2 : b.2 = bc.2 + b'.2) (hp : pc + 3 = pc') (h : cal F K = some rr) (hM : ∀ q σ', F = some (q, σ') → MM d bc mc (vR r i :: as) σ (none, σ')) (k : ∀ q σ', K q σ' = some rr → WM (d + 1) X Y b' mi pc' lv (st) σ' res) : WM (d + 1) X Y b mi pc lv (as.reverse ++ vR r i :: st) σ res := by
  subst hp
  obtain ⟨q, σ', hF, hK⟩ := cal_t h
  have hM := hM q σ' hF
  have kk := k q σ' hK
  intro ok ad H locs ls cells slots hD
  obtain ⟨⟨w1, w2, w3, w4, w5⟩, ⟨d1, d2, d3⟩, hL⟩ := hw
  have hg : gal σ r i := gal_of (hh1 (fun v hv => hD.hst v (List.mem_append_right _ hv))) hrg
  have hh : ∀ v ∈ vR r i :: as, hal σ v := fun v hv => by
    rcases List.mem_cons.mp hv with e | e
    · rw [e]
      exact Or.inl hg
    · exact hD.hst v (List.mem_append_left _ (List.mem_reverse.mpr e))
  obtain ⟨pb, pc0⟩ := pre_of ok.env hD.1 hh
  have hcc := (hD.1.2.2.1 r i hg).2
  unfold cellOk at hcc
  rw [hrg] at hcc
  obtain ⟨cell, q1, q2, q3, q4⟩ := hcc
  obtain ⟨⟨C, T, N'⟩, hcq, hce⟩ := Option.map_eq_some_iff.mp hcl
  have hfc := (ok.env.2.1 ci _ hcq).2.1
  have hrun := va_runV (As := as.map (cv ad)) (rest := st.map (cv ad)) (g := F0 X.2.2.2.2.2.1 pc ls ((as.reverse ++ vR r i :: st).map (cv ad))) (locs := locs) (cells := cells) (slots := slots) (Ts := mtbl) (C := mc.1.cls) (bytes := mc.2.1) (maxL := mc.2.2.1) (ret := mc.2.2.2) (n := n) (H := H) (below := X.2.2.2.2.2.2.2.1) (meth := X.2.2.2.2.2.2.2.2.1) (e := X.2.2.1) (R := X.2.2.2.1) (b := ad r i)
    ⟨ok.1, ok.2.1, ok.2.2.2.1, ok.own, ok.hts⟩ (hM X.2.1 Y.1 ad)
    ⟨⟨rfl, rfl, ok.2.2.2.2.2.2.2.1, by have hlc := ok.2.2.2.2.2.2.2.2; show 8 + (mc.2.2.1 + 11) + 40 * d ≤ _; omega, cw_ws (ok.hts _ w5), List.mem_singleton.mpr rfl, ok.hts _ w5, ok.hts _ w4, ⟨d1, d2⟩, par_n d3, ok.hts _ w1⟩, ok.hts _ w2, ok.hts _ w3⟩
    ⟨pb, ⟨cell, q1, by rw [q3]; rfl, by rw [q2, ← hce]; exact hfc⟩, pc0⟩ rfl (by rw [List.length_map]; exact hn) hD.lv.1 (by show List.map _ _ = _; rw [List.map_append, List.map_reverse]; rfl) (by rw [catS_eq]; show 2 * 0 + catS st ≤ 8; have := Nat.le_of_ble_eq_true hs; omega) hd
    (by
      have h1 := hD.2.2.2.2.2.2.1
      have h2 := hD.2.2.2.2.2.2.2
      exact ⟨by omega, by omega⟩)
  rw [show as.reverse ++ vR r i :: st = (as.reverse ++ [vR r i]) ++ st by simp] at hrun hD ⊢
  exact WM.back (rv := none) (as := vR r i :: as) ok hD hb1 hb2 hrun kk
theorem r_callv_o {t : Nat} {r i ci N idx n : Nat} {as : List MV} {F : Option (Option Nat × SS)} {K : Option Nat → SS → Option α} (hw : CV mi.1.cls idx mc n) (hd : decode mi.2.1 pc = .ok (.invokevirtual idx, 3)) (hrg : rg r = some (.inl ci, N)) (hcl : (vwCl[ci]?).map (fun q => q.1) = some mc.1.cls) (hn : as.length = n) (hs : Nat.ble (catS st) 8 = true) (hb1 : b.1 = bc.1 + b'.1) (hb2 : b.2 = bc.2 + b'.2) (hp : pc + 3 = pc') (h : cal F K = some rr) (hM : ∀ q σ', F = some (q, σ') → MM d bc mc (vR r i :: as) σ (some (vO t q), σ')) (k : ∀ q σ', K q σ' = some rr → WM (d + 1) X Y b' mi pc' lv (vO t q :: st) σ' res) : WM (d + 1) X Y b mi pc lv (as.reverse ++ vR r i :: st) σ res := by
  subst hp
  obtain ⟨q, σ', hF, hK⟩ := cal_t h
  have hM := hM q σ' hF
  have kk := k q σ' hK
  intro ok ad H locs ls cells slots hD
  obtain ⟨⟨w1, w2, w3, w4, w5⟩, ⟨d1, d2, d3⟩, hL⟩ := hw
  have hg : gal σ r i := gal_of (hh1 (fun v hv => hD.hst v (List.mem_append_right _ hv))) hrg
  have hh : ∀ v ∈ vR r i :: as, hal σ v := fun v hv => by
    rcases List.mem_cons.mp hv with e | e
    · rw [e]
      exact Or.inl hg
    · exact hD.hst v (List.mem_append_left _ (List.mem_reverse.mpr e))
  obtain ⟨pb, pc0⟩ := pre_of ok.env hD.1 hh
  have hcc := (hD.1.2.2.1 r i hg).2
  unfold cellOk at hcc
  rw [hrg] at hcc
  obtain ⟨cell, q1, q2, q3, q4⟩ := hcc
  obtain ⟨⟨C, T, N'⟩, hcq, hce⟩ := Option.map_eq_some_iff.mp hcl
  have hfc := (ok.env.2.1 ci _ hcq).2.1
  have hrun := va_runV (As := as.map (cv ad)) (rest := st.map (cv ad)) (g := F0 X.2.2.2.2.2.1 pc ls ((as.reverse ++ vR r i :: st).map (cv ad))) (locs := locs) (cells := cells) (slots := slots) (Ts := mtbl) (C := mc.1.cls) (bytes := mc.2.1) (maxL := mc.2.2.1) (ret := mc.2.2.2) (n := n) (H := H) (below := X.2.2.2.2.2.2.2.1) (meth := X.2.2.2.2.2.2.2.2.1) (e := X.2.2.1) (R := X.2.2.2.1) (b := ad r i)
    ⟨ok.1, ok.2.1, ok.2.2.2.1, ok.own, ok.hts⟩ (hM X.2.1 Y.1 ad)
    ⟨⟨rfl, rfl, ok.2.2.2.2.2.2.2.1, by have hlc := ok.2.2.2.2.2.2.2.2; show 8 + (mc.2.2.1 + 11) + 40 * d ≤ _; omega, cw_ws (ok.hts _ w5), List.mem_singleton.mpr rfl, ok.hts _ w5, ok.hts _ w4, ⟨d1, d2⟩, par_n d3, ok.hts _ w1⟩, ok.hts _ w2, ok.hts _ w3⟩
    ⟨pb, ⟨cell, q1, by rw [q3]; rfl, by rw [q2, ← hce]; exact hfc⟩, pc0⟩ rfl (by rw [List.length_map]; exact hn) hD.lv.1 (by show List.map _ _ = _; rw [List.map_append, List.map_reverse]; rfl) (by rw [catS_eq]; show 2 * 0 + catS st ≤ 8; have := Nat.le_of_ble_eq_true hs; omega) hd
    (by
      have h1 := hD.2.2.2.2.2.2.1
      have h2 := hD.2.2.2.2.2.2.2
      exact ⟨by omega, by omega⟩)
  rw [show as.reverse ++ vR r i :: st = (as.reverse ++ [vR r i]) ++ st by simp] at hrun hD ⊢
  exact WM.back (rv := some (vO t q)) (as := vR r i :: as) ok hD hb1 hb2 hrun kk
theorem r_calls_i {idx n : Nat} {as : List MV} {F : Option (Int32 × SS)} {K : Int32 → SS → Option α} (hw : CT mi.1.cls idx mc n) (hd : decode mi.2.1 pc = .ok (.invokestatic idx, 3)) (hn : as.length = n) (hs : Nat.ble (catS st) 8 = true) (hb1 : b.1 = bc.1 + b'.1) (hb2 : b.2 = bc.2 + b'.2) (hp : pc + 3 = pc') (h : cal F K = some rr) (hM : ∀ q σ', F = some (q, σ') → MM d bc mc as σ (some (vI q), σ')) (k : ∀ q σ', K q σ' = some rr → WM (d + 1) X Y b' mi pc' lv (vI q :: st) σ' res) : WM (d + 1) X Y b mi pc lv (as.reverse ++ st) σ res := by
  subst hp
  obtain ⟨q, σ', hF, hK⟩ := cal_t h
  have hM := hM q σ' hF
  have kk := k q σ' hK
  intro ok ad H locs ls cells slots hD
  obtain ⟨⟨w1, w2, w4, w5⟩, ⟨d1, d2, d3⟩, hL⟩ := hw
  have hh : ∀ v ∈ as, hal σ v := fun v hv => hD.hst v (List.mem_append_left _ (List.mem_reverse.mpr hv))
  have hrun := va_runS (As := as.map (cv ad)) (rest := st.map (cv ad)) (g := F0 X.2.2.2.2.2.1 pc ls ((as.reverse ++ st).map (cv ad))) (locs := locs) (cells := cells) (slots := slots) (Ts := mtbl) (bytes := mc.2.1) (maxL := mc.2.2.1) (ret := mc.2.2.2) (n := n) (H := H) (below := X.2.2.2.2.2.2.2.1) (meth := X.2.2.2.2.2.2.2.2.1) (e := X.2.2.1) (R := X.2.2.2.1)
    ⟨ok.1, ok.2.1, ok.2.2.2.1, ok.own, ok.hts⟩ (hM X.2.1 Y.1 ad)
    ⟨⟨rfl, rfl, ok.2.2.2.2.2.2.2.1, by have hlc := ok.2.2.2.2.2.2.2.2; show 8 + (mc.2.2.1 + 11) + 40 * d ≤ _; omega, cw_ws (ok.hts _ w5), List.mem_singleton.mpr rfl, ok.hts _ w5, ok.hts _ w4, ⟨d1, d2⟩, par_n d3, ok.hts _ w1⟩, ok.hts _ w2⟩
    (pre_of ok.env hD.1 hh) rfl (by rw [List.length_map]; exact hn) hD.lv.1 (by show List.map _ _ = _; rw [List.map_append, List.map_reverse]) (by rw [catS_eq]; show 2 * 0 + catS st ≤ 8; have := Nat.le_of_ble_eq_true hs; omega) hd
    (by
      have h1 := hD.2.2.2.2.2.2.1
      have h2 := hD.2.2.2.2.2.2.2
      exact ⟨by omega, by omega⟩)
  exact WM.back (rv := some (vI q)) (as := as) ok hD hb1 hb2 hrun kk
theorem r_calls_l {idx n : Nat} {as : List MV} {F : Option (Int64 × SS)} {K : Int64 → SS → Option α} (hw : CT mi.1.cls idx mc n) (hd : decode mi.2.1 pc = .ok (.invokestatic idx, 3)) (hn : as.length = n) (hs : Nat.ble (catS st) 8 = true) (hb1 : b.1 = bc.1 + b'.1) (hb2 : b.2 = bc.2 + b'.2) (hp : pc + 3 = pc') (h : cal F K = some rr) (hM : ∀ q σ', F = some (q, σ') → MM d bc mc as σ (some (vL q), σ')) (k : ∀ q σ', K q σ' = some rr → WM (d + 1) X Y b' mi pc' lv (vL q :: st) σ' res) : WM (d + 1) X Y b mi pc lv (as.reverse ++ st) σ res := by
  subst hp
  obtain ⟨q, σ', hF, hK⟩ := cal_t h
  have hM := hM q σ' hF
  have kk := k q σ' hK
  intro ok ad H locs ls cells slots hD
  obtain ⟨⟨w1, w2, w4, w5⟩, ⟨d1, d2, d3⟩, hL⟩ := hw
  have hh : ∀ v ∈ as, hal σ v := fun v hv => hD.hst v (List.mem_append_left _ (List.mem_reverse.mpr hv))
  have hrun := va_runS (As := as.map (cv ad)) (rest := st.map (cv ad)) (g := F0 X.2.2.2.2.2.1 pc ls ((as.reverse ++ st).map (cv ad))) (locs := locs) (cells := cells) (slots := slots) (Ts := mtbl) (bytes := mc.2.1) (maxL := mc.2.2.1) (ret := mc.2.2.2) (n := n) (H := H) (below := X.2.2.2.2.2.2.2.1) (meth := X.2.2.2.2.2.2.2.2.1) (e := X.2.2.1) (R := X.2.2.2.1)
    ⟨ok.1, ok.2.1, ok.2.2.2.1, ok.own, ok.hts⟩ (hM X.2.1 Y.1 ad)
    ⟨⟨rfl, rfl, ok.2.2.2.2.2.2.2.1, by have hlc := ok.2.2.2.2.2.2.2.2; show 8 + (mc.2.2.1 + 11) + 40 * d ≤ _; omega, cw_ws (ok.hts _ w5), List.mem_singleton.mpr rfl, ok.hts _ w5, ok.hts _ w4, ⟨d1, d2⟩, par_n d3, ok.hts _ w1⟩, ok.hts _ w2⟩
    (pre_of ok.env hD.1 hh) rfl (by rw [List.length_map]; exact hn) hD.lv.1 (by show List.map _ _ = _; rw [List.map_append, List.map_reverse]) (by rw [catS_eq]; show 2 * 0 + catS st ≤ 8; have := Nat.le_of_ble_eq_true hs; omega) hd
    (by
      have h1 := hD.2.2.2.2.2.2.1
      have h2 := hD.2.2.2.2.2.2.2
      exact ⟨by omega, by omega⟩)
  exact WM.back (rv := some (vL q)) (as := as) ok hD hb1 hb2 hrun kk
theorem r_calls_v {idx n : Nat} {as : List MV} {F : Option (Unit × SS)} {K : Unit → SS → Option α} (hw : CT mi.1.cls idx mc n) (hd : decode mi.2.1 pc = .ok (.invokestatic idx, 3)) (hn : as.length = n) (hs : Nat.ble (catS st) 8 = true) (hb1 : b.1 = bc.1 + b'.1) (hb2 : b.2 = bc.2 + b'.2) (hp : pc + 3 = pc') (h : cal F K = some rr) (hM : ∀ q σ', F = some (q, σ') → MM d bc mc as σ (none, σ')) (k : ∀ q σ', K q σ' = some rr → WM (d + 1) X Y b' mi pc' lv (st) σ' res) : WM (d + 1) X Y b mi pc lv (as.reverse ++ st) σ res := by
  subst hp
  obtain ⟨q, σ', hF, hK⟩ := cal_t h
  have hM := hM q σ' hF
  have kk := k q σ' hK
  intro ok ad H locs ls cells slots hD
  obtain ⟨⟨w1, w2, w4, w5⟩, ⟨d1, d2, d3⟩, hL⟩ := hw
  have hh : ∀ v ∈ as, hal σ v := fun v hv => hD.hst v (List.mem_append_left _ (List.mem_reverse.mpr hv))
  have hrun := va_runS (As := as.map (cv ad)) (rest := st.map (cv ad)) (g := F0 X.2.2.2.2.2.1 pc ls ((as.reverse ++ st).map (cv ad))) (locs := locs) (cells := cells) (slots := slots) (Ts := mtbl) (bytes := mc.2.1) (maxL := mc.2.2.1) (ret := mc.2.2.2) (n := n) (H := H) (below := X.2.2.2.2.2.2.2.1) (meth := X.2.2.2.2.2.2.2.2.1) (e := X.2.2.1) (R := X.2.2.2.1)
    ⟨ok.1, ok.2.1, ok.2.2.2.1, ok.own, ok.hts⟩ (hM X.2.1 Y.1 ad)
    ⟨⟨rfl, rfl, ok.2.2.2.2.2.2.2.1, by have hlc := ok.2.2.2.2.2.2.2.2; show 8 + (mc.2.2.1 + 11) + 40 * d ≤ _; omega, cw_ws (ok.hts _ w5), List.mem_singleton.mpr rfl, ok.hts _ w5, ok.hts _ w4, ⟨d1, d2⟩, par_n d3, ok.hts _ w1⟩, ok.hts _ w2⟩
    (pre_of ok.env hD.1 hh) rfl (by rw [List.length_map]; exact hn) hD.lv.1 (by show List.map _ _ = _; rw [List.map_append, List.map_reverse]) (by rw [catS_eq]; show 2 * 0 + catS st ≤ 8; have := Nat.le_of_ble_eq_true hs; omega) hd
    (by
      have h1 := hD.2.2.2.2.2.2.1
      have h2 := hD.2.2.2.2.2.2.2
      exact ⟨by omega, by omega⟩)
  exact WM.back (rv := none) (as := as) ok hD hb1 hb2 hrun kk
theorem r_calls_o {t : Nat} {idx n : Nat} {as : List MV} {F : Option (Option Nat × SS)} {K : Option Nat → SS → Option α} (hw : CT mi.1.cls idx mc n) (hd : decode mi.2.1 pc = .ok (.invokestatic idx, 3)) (hn : as.length = n) (hs : Nat.ble (catS st) 8 = true) (hb1 : b.1 = bc.1 + b'.1) (hb2 : b.2 = bc.2 + b'.2) (hp : pc + 3 = pc') (h : cal F K = some rr) (hM : ∀ q σ', F = some (q, σ') → MM d bc mc as σ (some (vO t q), σ')) (k : ∀ q σ', K q σ' = some rr → WM (d + 1) X Y b' mi pc' lv (vO t q :: st) σ' res) : WM (d + 1) X Y b mi pc lv (as.reverse ++ st) σ res := by
  subst hp
  obtain ⟨q, σ', hF, hK⟩ := cal_t h
  have hM := hM q σ' hF
  have kk := k q σ' hK
  intro ok ad H locs ls cells slots hD
  obtain ⟨⟨w1, w2, w4, w5⟩, ⟨d1, d2, d3⟩, hL⟩ := hw
  have hh : ∀ v ∈ as, hal σ v := fun v hv => hD.hst v (List.mem_append_left _ (List.mem_reverse.mpr hv))
  have hrun := va_runS (As := as.map (cv ad)) (rest := st.map (cv ad)) (g := F0 X.2.2.2.2.2.1 pc ls ((as.reverse ++ st).map (cv ad))) (locs := locs) (cells := cells) (slots := slots) (Ts := mtbl) (bytes := mc.2.1) (maxL := mc.2.2.1) (ret := mc.2.2.2) (n := n) (H := H) (below := X.2.2.2.2.2.2.2.1) (meth := X.2.2.2.2.2.2.2.2.1) (e := X.2.2.1) (R := X.2.2.2.1)
    ⟨ok.1, ok.2.1, ok.2.2.2.1, ok.own, ok.hts⟩ (hM X.2.1 Y.1 ad)
    ⟨⟨rfl, rfl, ok.2.2.2.2.2.2.2.1, by have hlc := ok.2.2.2.2.2.2.2.2; show 8 + (mc.2.2.1 + 11) + 40 * d ≤ _; omega, cw_ws (ok.hts _ w5), List.mem_singleton.mpr rfl, ok.hts _ w5, ok.hts _ w4, ⟨d1, d2⟩, par_n d3, ok.hts _ w1⟩, ok.hts _ w2⟩
    (pre_of ok.env hD.1 hh) rfl (by rw [List.length_map]; exact hn) hD.lv.1 (by show List.map _ _ = _; rw [List.map_append, List.map_reverse]) (by rw [catS_eq]; show 2 * 0 + catS st ≤ 8; have := Nat.le_of_ble_eq_true hs; omega) hd
    (by
      have h1 := hD.2.2.2.2.2.2.1
      have h2 := hD.2.2.2.2.2.2.2
      exact ⟨by omega, by omega⟩)
  exact WM.back (rv := some (vO t q)) (as := as) ok hD hb1 hb2 hrun kk
theorem r_calln_i {host : String} {idx n : Nat} {as : List MV} {F : Option (Int32 × SS)} {K : Int32 → SS → Option α} (hw : CN mi.1.cls idx host mc n) (hd : decode mi.2.1 pc = .ok (.invokestatic idx, 3)) (hn : as.length = n) (hs : Nat.ble (catS st) 8 = true) (hb1 : b.1 = bc.1 + b'.1) (hb2 : b.2 = bc.2 + b'.2) (hp : pc + 3 = pc') (h : cal F K = some rr) (hM : ∀ q σ', F = some (q, σ') → MM d bc mc as σ (some (vI q), σ')) (k : ∀ q σ', K q σ' = some rr → WM (d + 1) X Y b' mi pc' lv (vI q :: st) σ' res) : WM (d + 1) X Y b mi pc lv (as.reverse ++ st) σ res := by
  subst hp
  obtain ⟨q, σ', hF, hK⟩ := cal_t h
  have hM := hM q σ' hF
  have kk := k q σ' hK
  intro ok ad H locs ls cells slots hD
  obtain ⟨⟨w1, w2, w4, w5⟩, ⟨d1, d2, d3⟩, hL⟩ := hw
  have hh : ∀ v ∈ as, hal σ v := fun v hv => hD.hst v (List.mem_append_left _ (List.mem_reverse.mpr hv))
  have hrun := va_runSN (As := as.map (cv ad)) (rest := st.map (cv ad)) (g := F0 X.2.2.2.2.2.1 pc ls ((as.reverse ++ st).map (cv ad))) (locs := locs) (cells := cells) (slots := slots) (Ts := mtbl) (bytes := mc.2.1) (maxL := mc.2.2.1) (ret := mc.2.2.2) (n := n) (H := H) (below := X.2.2.2.2.2.2.2.1) (meth := X.2.2.2.2.2.2.2.2.1) (e := X.2.2.1) (R := X.2.2.2.1)
    ⟨ok.1, ok.2.1, ok.2.2.2.1, ok.own, ok.hts⟩ (hM X.2.1 Y.1 ad)
    ⟨⟨⟨rfl, rfl, ok.2.2.2.2.2.2.2.1, by have hlc := ok.2.2.2.2.2.2.2.2; show 8 + (mc.2.2.1 + 11) + 40 * d ≤ _; omega, cw_ws (ok.hts _ w5), List.mem_singleton.mpr rfl⟩, ok.hts _ w5, ok.hts _ w4, ⟨d1, d2⟩, par_n d3, ok.hts _ w1⟩, ok.hts _ w2, trivial⟩
    (pre_of ok.env hD.1 hh) rfl (by rw [List.length_map]; exact hn) hD.lv.1 (by show List.map _ _ = _; rw [List.map_append, List.map_reverse]) (by rw [catS_eq]; show 2 * 0 + catS st ≤ 8; have := Nat.le_of_ble_eq_true hs; omega) hd
    (by
      have h1 := hD.2.2.2.2.2.2.1
      have h2 := hD.2.2.2.2.2.2.2
      exact ⟨by omega, by omega⟩)
  exact WM.back (rv := some (vI q)) (as := as) ok hD hb1 hb2 hrun kk
theorem r_calln_l {host : String} {idx n : Nat} {as : List MV} {F : Option (Int64 × SS)} {K : Int64 → SS → Option α} (hw : CN mi.1.cls idx host mc n) (hd : decode mi.2.1 pc = .ok (.invokestatic idx, 3)) (hn : as.length = n) (hs : Nat.ble (catS st) 8 = true) (hb1 : b.1 = bc.1 + b'.1) (hb2 : b.2 = bc.2 + b'.2) (hp : pc + 3 = pc') (h : cal F K = some rr) (hM : ∀ q σ', F = some (q, σ') → MM d bc mc as σ (some (vL q), σ')) (k : ∀ q σ', K q σ' = some rr → WM (d + 1) X Y b' mi pc' lv (vL q :: st) σ' res) : WM (d + 1) X Y b mi pc lv (as.reverse ++ st) σ res := by
  subst hp
  obtain ⟨q, σ', hF, hK⟩ := cal_t h
  have hM := hM q σ' hF
  have kk := k q σ' hK
  intro ok ad H locs ls cells slots hD
  obtain ⟨⟨w1, w2, w4, w5⟩, ⟨d1, d2, d3⟩, hL⟩ := hw
  have hh : ∀ v ∈ as, hal σ v := fun v hv => hD.hst v (List.mem_append_left _ (List.mem_reverse.mpr hv))
  have hrun := va_runSN (As := as.map (cv ad)) (rest := st.map (cv ad)) (g := F0 X.2.2.2.2.2.1 pc ls ((as.reverse ++ st).map (cv ad))) (locs := locs) (cells := cells) (slots := slots) (Ts := mtbl) (bytes := mc.2.1) (maxL := mc.2.2.1) (ret := mc.2.2.2) (n := n) (H := H) (below := X.2.2.2.2.2.2.2.1) (meth := X.2.2.2.2.2.2.2.2.1) (e := X.2.2.1) (R := X.2.2.2.1)
    ⟨ok.1, ok.2.1, ok.2.2.2.1, ok.own, ok.hts⟩ (hM X.2.1 Y.1 ad)
    ⟨⟨⟨rfl, rfl, ok.2.2.2.2.2.2.2.1, by have hlc := ok.2.2.2.2.2.2.2.2; show 8 + (mc.2.2.1 + 11) + 40 * d ≤ _; omega, cw_ws (ok.hts _ w5), List.mem_singleton.mpr rfl⟩, ok.hts _ w5, ok.hts _ w4, ⟨d1, d2⟩, par_n d3, ok.hts _ w1⟩, ok.hts _ w2, trivial⟩
    (pre_of ok.env hD.1 hh) rfl (by rw [List.length_map]; exact hn) hD.lv.1 (by show List.map _ _ = _; rw [List.map_append, List.map_reverse]) (by rw [catS_eq]; show 2 * 0 + catS st ≤ 8; have := Nat.le_of_ble_eq_true hs; omega) hd
    (by
      have h1 := hD.2.2.2.2.2.2.1
      have h2 := hD.2.2.2.2.2.2.2
      exact ⟨by omega, by omega⟩)
  exact WM.back (rv := some (vL q)) (as := as) ok hD hb1 hb2 hrun kk
theorem r_calln_v {host : String} {idx n : Nat} {as : List MV} {F : Option (Unit × SS)} {K : Unit → SS → Option α} (hw : CN mi.1.cls idx host mc n) (hd : decode mi.2.1 pc = .ok (.invokestatic idx, 3)) (hn : as.length = n) (hs : Nat.ble (catS st) 8 = true) (hb1 : b.1 = bc.1 + b'.1) (hb2 : b.2 = bc.2 + b'.2) (hp : pc + 3 = pc') (h : cal F K = some rr) (hM : ∀ q σ', F = some (q, σ') → MM d bc mc as σ (none, σ')) (k : ∀ q σ', K q σ' = some rr → WM (d + 1) X Y b' mi pc' lv (st) σ' res) : WM (d + 1) X Y b mi pc lv (as.reverse ++ st) σ res := by
  subst hp
  obtain ⟨q, σ', hF, hK⟩ := cal_t h
  have hM := hM q σ' hF
  have kk := k q σ' hK
  intro ok ad H locs ls cells slots hD
  obtain ⟨⟨w1, w2, w4, w5⟩, ⟨d1, d2, d3⟩, hL⟩ := hw
  have hh : ∀ v ∈ as, hal σ v := fun v hv => hD.hst v (List.mem_append_left _ (List.mem_reverse.mpr hv))
  have hrun := va_runSN (As := as.map (cv ad)) (rest := st.map (cv ad)) (g := F0 X.2.2.2.2.2.1 pc ls ((as.reverse ++ st).map (cv ad))) (locs := locs) (cells := cells) (slots := slots) (Ts := mtbl) (bytes := mc.2.1) (maxL := mc.2.2.1) (ret := mc.2.2.2) (n := n) (H := H) (below := X.2.2.2.2.2.2.2.1) (meth := X.2.2.2.2.2.2.2.2.1) (e := X.2.2.1) (R := X.2.2.2.1)
    ⟨ok.1, ok.2.1, ok.2.2.2.1, ok.own, ok.hts⟩ (hM X.2.1 Y.1 ad)
    ⟨⟨⟨rfl, rfl, ok.2.2.2.2.2.2.2.1, by have hlc := ok.2.2.2.2.2.2.2.2; show 8 + (mc.2.2.1 + 11) + 40 * d ≤ _; omega, cw_ws (ok.hts _ w5), List.mem_singleton.mpr rfl⟩, ok.hts _ w5, ok.hts _ w4, ⟨d1, d2⟩, par_n d3, ok.hts _ w1⟩, ok.hts _ w2, trivial⟩
    (pre_of ok.env hD.1 hh) rfl (by rw [List.length_map]; exact hn) hD.lv.1 (by show List.map _ _ = _; rw [List.map_append, List.map_reverse]) (by rw [catS_eq]; show 2 * 0 + catS st ≤ 8; have := Nat.le_of_ble_eq_true hs; omega) hd
    (by
      have h1 := hD.2.2.2.2.2.2.1
      have h2 := hD.2.2.2.2.2.2.2
      exact ⟨by omega, by omega⟩)
  exact WM.back (rv := none) (as := as) ok hD hb1 hb2 hrun kk
theorem r_calln_o {t : Nat} {host : String} {idx n : Nat} {as : List MV} {F : Option (Option Nat × SS)} {K : Option Nat → SS → Option α} (hw : CN mi.1.cls idx host mc n) (hd : decode mi.2.1 pc = .ok (.invokestatic idx, 3)) (hn : as.length = n) (hs : Nat.ble (catS st) 8 = true) (hb1 : b.1 = bc.1 + b'.1) (hb2 : b.2 = bc.2 + b'.2) (hp : pc + 3 = pc') (h : cal F K = some rr) (hM : ∀ q σ', F = some (q, σ') → MM d bc mc as σ (some (vO t q), σ')) (k : ∀ q σ', K q σ' = some rr → WM (d + 1) X Y b' mi pc' lv (vO t q :: st) σ' res) : WM (d + 1) X Y b mi pc lv (as.reverse ++ st) σ res := by
  subst hp
  obtain ⟨q, σ', hF, hK⟩ := cal_t h
  have hM := hM q σ' hF
  have kk := k q σ' hK
  intro ok ad H locs ls cells slots hD
  obtain ⟨⟨w1, w2, w4, w5⟩, ⟨d1, d2, d3⟩, hL⟩ := hw
  have hh : ∀ v ∈ as, hal σ v := fun v hv => hD.hst v (List.mem_append_left _ (List.mem_reverse.mpr hv))
  have hrun := va_runSN (As := as.map (cv ad)) (rest := st.map (cv ad)) (g := F0 X.2.2.2.2.2.1 pc ls ((as.reverse ++ st).map (cv ad))) (locs := locs) (cells := cells) (slots := slots) (Ts := mtbl) (bytes := mc.2.1) (maxL := mc.2.2.1) (ret := mc.2.2.2) (n := n) (H := H) (below := X.2.2.2.2.2.2.2.1) (meth := X.2.2.2.2.2.2.2.2.1) (e := X.2.2.1) (R := X.2.2.2.1)
    ⟨ok.1, ok.2.1, ok.2.2.2.1, ok.own, ok.hts⟩ (hM X.2.1 Y.1 ad)
    ⟨⟨⟨rfl, rfl, ok.2.2.2.2.2.2.2.1, by have hlc := ok.2.2.2.2.2.2.2.2; show 8 + (mc.2.2.1 + 11) + 40 * d ≤ _; omega, cw_ws (ok.hts _ w5), List.mem_singleton.mpr rfl⟩, ok.hts _ w5, ok.hts _ w4, ⟨d1, d2⟩, par_n d3, ok.hts _ w1⟩, ok.hts _ w2, trivial⟩
    (pre_of ok.env hD.1 hh) rfl (by rw [List.length_map]; exact hn) hD.lv.1 (by show List.map _ _ = _; rw [List.map_append, List.map_reverse]) (by rw [catS_eq]; show 2 * 0 + catS st ≤ 8; have := Nat.le_of_ble_eq_true hs; omega) hd
    (by
      have h1 := hD.2.2.2.2.2.2.1
      have h2 := hD.2.2.2.2.2.2.2
      exact ⟨by omega, by omega⟩)
  exact WM.back (rv := some (vO t q)) (as := as) ok hD hb1 hb2 hrun kk
end CALLS
