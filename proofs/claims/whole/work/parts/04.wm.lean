/-- locals by place: what is known of them -/
def lok (ad : Nat → Nat → Nat) (ls : Array Slot) (nL : Nat) (lv : List (Option MV)) : Prop := ls.size = nL ∧ lv_wf ls ∧ ∀ (i : Nat) (v : MV), lv[i]? = some (some v) → ls[i]? = some (.val (cv ad v))
def lpairs (ad : Nat → Nat → Nat) (lv : List (Option MV)) : List (Nat × Value) := (List.range lv.length).filterMap (fun i => match lv[i]? with
  | some (some v) => some (i, cv ad v)
  | _ => none)
theorem mem_lpairs {ad : Nat → Nat → Nat} {lv : List (Option MV)} {i : Nat} {v : MV} (h : lv[i]? = some (some v)) : (i, cv ad v) ∈ lpairs ad lv := by
  refine List.mem_filterMap.mpr ⟨i, List.mem_range.mpr (List.getElem?_eq_some_iff.mp h).1, ?_⟩
  rw [h]
theorem lpairs_mem {ad : Nat → Nat → Nat} {lv : List (Option MV)} {q : Nat × Value} (h : q ∈ lpairs ad lv) : ∃ v, lv[q.1]? = some (some v) ∧ q.2 = cv ad v := by
  obtain ⟨i, -, hi⟩ := List.mem_filterMap.mp h
  split at hi
  · rename_i v hv
    cases hi
    exact ⟨v, hv, rfl⟩
  · cases hi
theorem lok.has {ad : Nat → Nat → Nat} {ls : Array Slot} {nL : Nat} {lv : List (Option MV)} (h : lok ad ls nL lv) : lv_has ls nL (lpairs ad lv) := by
  refine ⟨h.1, h.2.1, fun q hq => ?_⟩
  obtain ⟨v, h1, h2⟩ := lpairs_mem hq
  rw [h2]
  exact h.2.2 q.1 v h1
/-- is the place before i known to hold a long -/
def pL (lv : List (Option MV)) : Nat → Bool
  | 0 => false
  | j + 1 => match lv[j]? with
    | some (some (.inr (.inl _))) => true
    | _ => false
def c1 : MV → Bool
  | .inr (.inl _) => false
  | _ => true
theorem c1_cat {ad : Nat → Nat → Nat} {v : MV} (h : c1 v = true) : (cv ad v).category = 1 := by
  match v, h with
  | .inl _, _ => rfl
  | .inr (.inr none), _ => rfl
  | .inr (.inr (some _)), _ => rfl
theorem cat2 {ad : Nat → Nat → Nat} {v : MV} (h : (cv ad v).category = 2) : c1 v = false := by
  match v, h with
  | .inr (.inl _), _ => rfl
theorem lok.s1 {ad : Nat → Nat → Nat} {ls' : Array Slot} {nL : Nat} {lv : List (Option MV)} {i : Nat} {v : MV} (hp : pL lv i = false) (h2 : lv_has ls' nL ((i, cv ad v) :: (lpairs ad lv).filter (fun q => !(q.1 == i) && !(q.1 + 1 == i && q.2.category == 2)))) : lok ad ls' nL (lv.set i (some v)) := by
  refine ⟨h2.1, h2.2.1, fun j u hj => ?_⟩
  rw [List.getElem?_set] at hj
  split at hj
  · rename_i hij
    subst hij
    split at hj
    · cases hj
      exact h2.2.2 (i, cv ad v) List.mem_cons_self
    · cases hj
  · rename_i hij
    refine h2.2.2 (j, cv ad u) (List.mem_cons_of_mem _ (List.mem_filter.mpr ⟨mem_lpairs hj, ?_⟩))
    by_cases hji : j + 1 = i
    · subst hji
      have : (cv ad u).category ≠ 2 := by
        intro hc2
        have h3 := cat2 hc2
        match u, h3 with
        | .inr (.inl x), _ => simp [pL, hj] at hp
      simp [this]
    · simp [hji]
      omega
theorem lok.s2 {ad : Nat → Nat → Nat} {ls' : Array Slot} {nL : Nat} {lv : List (Option MV)} {i : Nat} {x : Int64} (hp : pL lv i = false) (h2 : lv_has ls' nL ((i, .long x) :: (lpairs ad lv).filter (fun q => !(q.1 == i) && (!(q.1 == i + 1) && !(q.1 + 1 == i && q.2.category == 2))))) : lok ad ls' nL ((lv.set (i + 1) none).set i (some (vL x))) := by
  refine ⟨h2.1, h2.2.1, fun j u hj => ?_⟩
  rw [List.getElem?_set] at hj
  split at hj
  · rename_i hij
    subst hij
    split at hj
    · cases hj
      exact h2.2.2 (i, cv ad (vL x)) List.mem_cons_self
    · cases hj
  · rename_i hij
    rw [List.getElem?_set] at hj
    split at hj
    · split at hj
      · cases hj
      · cases hj
    · rename_i hij2
      refine h2.2.2 (j, cv ad u) (List.mem_cons_of_mem _ (List.mem_filter.mpr ⟨mem_lpairs hj, ?_⟩))
      by_cases hji : j + 1 = i
      · subst hji
        have : (cv ad u).category ≠ 2 := by
          intro hc2
          have h3 := cat2 hc2
          match u, h3 with
          | .inr (.inl x), _ => simp [pL, hj] at hp
        simp [this]
        omega
      · simp [hji]
        omega
abbrev MI : Type := MethodName × ByteArray × Nat × Option FieldType
abbrev MX : Type := Program × Launch × Env × Room × State × MethodId × Array Value × List Frame × Method × Code
abbrev MY : Type := WX × (Nat → Nat → Nat) × SS
abbrev RES : Type := Option MV × SS
def Qm (Y : MY) (res : RES) : Array Value → State → Outcome → State → Prop := fun _ _ o t =>
  ∃ ad : Nat → Nat → Nat, o = .returned (res.1.map (cv ad)) ∧ Rel Y.1 ad res.2 t.heap ∧ (∀ r i, alv Y.2.2 r i → alv res.2 r i ∧ ad r i = Y.2.1 r i) ∧ ∀ v, res.1 = some v → hal res.2 v
def okX (d : Nat) (X : MX) (Y : MY) (mi : MI) : Prop := X.1.tables.exec = Jvm.exec ∧ X.2.2.2.2.2.2.2.2.2.code = mi.2.1 ∧ X.2.2.2.2.2.2.2.2.1.sig.returnType = mi.2.2.2 ∧ X.2.2.2.2.2.2.2.2.2.maxLocals = mi.2.2.1 ∧ X.2.2.2.2.1.vm.findClass mi.1.cls = some X.2.2.2.2.2.1.cls ∧ X.2.2.2.2.2.2.2.2.1.locks = false ∧ EnvW Y.1 X.2.2.2.2.1 ∧ d ≤ X.2.2.2.1.frames ∧ 40 * d ≤ X.2.2.2.1.locals
/-- all that changes as a method runs -/
def Dyn (R : Room) (Y : MY) (b : Nat × Nat) (nL : Nat) (lv : List (Option MV)) (st : List MV) (σ : SS) (ad : Nat → Nat → Nat) (H : Heap) (locs : List Loc) (ls : Array Slot) (cells slots : Nat) : Prop :=
  Rel Y.1 ad σ H ∧ (∀ r i, alv Y.2.2 r i → alv σ r i ∧ ad r i = Y.2.1 r i) ∧ (∀ q ∈ locs, Y.1.2.2.1.size ≤ q.base) ∧ lok ad ls nL lv ∧ (∀ v, some v ∈ lv → hal σ v) ∧ (∀ v ∈ st, hal σ v) ∧ cells + b.1 = R.cells ∧ slots + b.2 = R.slots
/-- from this place of the method it returns res -/
def WM (d : Nat) (X : MX) (Y : MY) (b : Nat × Nat) (mi : MI) (pc : Nat) (lv : List (Option MV)) (st : List MV) (σ : SS) (res : RES) : Prop :=
  okX d X Y mi → ∀ (ad : Nat → Nat → Nat) (H : Heap) (locs : List Loc) (ls : Array Slot) (cells slots : Nat), Dyn X.2.2.2.1 Y b mi.2.2.1 lv st σ ad H locs ls cells slots →
    W X.1 X.2.1 X.2.2.1 X.2.2.2.1 X.2.2.2.2.1 X.2.2.2.2.2.1 X.2.2.2.2.2.2.1 X.2.2.2.2.2.2.2.1 X.2.2.2.2.2.2.2.2.1 X.2.2.2.2.2.2.2.2.2 H locs cells slots
      (MQ X.2.2.2.2.2.2.2.1 (Qm Y res) X.2.2.2.2.2.2.1 X.2.2.2.2.1 X.2.2.2.1.cells X.2.2.2.1.slots (fun q => Y.1.2.2.1.size ≤ q)) (F0 X.2.2.2.2.2.1 pc ls (st.map (cv ad)))
theorem Dyn.stk {R : Room} {Y : MY} {b : Nat × Nat} {nL : Nat} {lv : List (Option MV)} {st st' : List MV} {σ : SS} {ad : Nat → Nat → Nat} {H : Heap} {locs : List Loc} {ls : Array Slot} {cells slots : Nat} (h : Dyn R Y b nL lv st σ ad H locs ls cells slots) (h' : ∀ v ∈ st', hal σ v) : Dyn R Y b nL lv st' σ ad H locs ls cells slots :=
  ⟨h.1, h.2.1, h.2.2.1, h.2.2.2.1, h.2.2.2.2.1, h', h.2.2.2.2.2.2⟩
theorem Dyn.sto {R : Room} {Y : MY} {b : Nat × Nat} {nL : Nat} {lv lv' : List (Option MV)} {st st' : List MV} {σ : SS} {ad : Nat → Nat → Nat} {H : Heap} {locs : List Loc} {ls ls' : Array Slot} {cells slots : Nat} (h : Dyn R Y b nL lv st σ ad H locs ls cells slots) (hl : lok ad ls' nL lv') (hv : ∀ v, some v ∈ lv' → hal σ v) (h' : ∀ v ∈ st', hal σ v) : Dyn R Y b nL lv' st' σ ad H locs ls' cells slots :=
  ⟨h.1, h.2.1, h.2.2.1, hl, hv, h', h.2.2.2.2.2.2⟩
theorem Dyn.lv {R : Room} {Y : MY} {b : Nat × Nat} {nL : Nat} {lv : List (Option MV)} {st : List MV} {σ : SS} {ad : Nat → Nat → Nat} {H : Heap} {locs : List Loc} {ls : Array Slot} {cells slots : Nat} (h : Dyn R Y b nL lv st σ ad H locs ls cells slots) : lok ad ls nL lv := h.2.2.2.1
theorem Dyn.hst {R : Room} {Y : MY} {b : Nat × Nat} {nL : Nat} {lv : List (Option MV)} {st : List MV} {σ : SS} {ad : Nat → Nat → Nat} {H : Heap} {locs : List Loc} {ls : Array Slot} {cells slots : Nat} (h : Dyn R Y b nL lv st σ ad H locs ls cells slots) : ∀ v ∈ st, hal σ v := h.2.2.2.2.2.1
theorem Dyn.hlv {R : Room} {Y : MY} {b : Nat × Nat} {nL : Nat} {lv : List (Option MV)} {st : List MV} {σ : SS} {ad : Nat → Nat → Nat} {H : Heap} {locs : List Loc} {ls : Array Slot} {cells slots : Nat} (h : Dyn R Y b nL lv st σ ad H locs ls cells slots) : ∀ v, some v ∈ lv → hal σ v := h.2.2.2.2.1
