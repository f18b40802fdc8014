/-! ===== fields, arrays ===== -/
abbrev inr (j : Int32) (n : Nat) : Prop := ¬ (j < 0 ∨ n ≤ j.toNatClampNeg)
abbrev ix (j : Int32) : Nat := j.toNatClampNeg
def chk {α : Type} (p : Prop) [Decidable p] (A : Option α) : Option α := if p then A else none
theorem chk_t {α : Type} {p : Prop} [Decidable p] {A : Option α} {r : α} (h : chk p A = some r) : p ∧ A = some r := by
  unfold chk at h
  split at h
  · rename_i hp
    exact ⟨hp, h⟩
  · cases h
theorem chk_p {α : Type} {p : Prop} [Decidable p] {A : Option α} (h : p) : chk p A = A := if_pos h
def cal {α β : Type} (F : Option (β × SS)) (K : β → SS → Option α) : Option α := match F with
  | some q => K q.1 q.2
  | none => none
theorem cal_t {α β : Type} {F : Option (β × SS)} {K : β → SS → Option α} {r : α} (h : cal F K = some r) : ∃ q σ, F = some (q, σ) ∧ K q σ = some r := by
  unfold cal at h
  cases F with
  | none => cases h
  | some q => exact ⟨q.1, q.2, rfl, h⟩
theorem cal_s {α β : Type} {F : Option (β × SS)} {K : β → SS → Option α} {q : β} {σ : SS} (h : F = some (q, σ)) : cal F K = K q σ := by rw [h]; rfl
/-- a name for a value -/
def lt_ {α β : Type} (v : β) (K : β → Option α) : Option α := K v
/-- fields: the link, the class's number and how many fields it has, the field's place -/
def FL (own : String) (idx ci N k : Nat) : Prop := ∃ (C : String) (T : u_T), vwCl[ci]? = some (C, T, N) ∧ k < N ∧ (T k).1 = C ∧ Cond.fieldLink own idx C (T k).2.1 (T k).2.2.1 ∈ mtbl ∧ ∀ w ∈ u_ws C T N, w ∈ mtbl
/-- what a store into a field needs more -/
def FW (ci N k : Nat) (ty : FieldType) : Prop := ∃ (C : String) (T : u_T) (tf : Nat → FieldType), vwCl[ci]? = some (C, T, N) ∧ (T k).2.2.2 = false ∧ parseFieldDescriptor (T k).2.2.1 = some ty ∧ (∀ k, k < N → parseFieldDescriptor (T k).2.2.1 = some (tf k)) ∧ ∀ a, a < N → ∀ b, b < N → a ≠ b → (T a).2.1 ≠ (T b).2.1
theorem gal_of {σ : SS} {r i : Nat} {x : (Nat ⊕ Nat) × Nat} (h : alv σ r i) (hr : rg r = some x) : gal σ r i := by
  rcases h with h | ⟨h1, h2, -⟩
  · exact h
  · exfalso
    have : rgT[r]? = none := List.getElem?_eq_none (by show 89 ≤ r; omega)
    rw [rg, this] at hr
    cases hr
theorem view_up {σ : SS} {r i k : Nat} {v : Int32} (h2 : r ≠ 2) (h13 : r ≠ 13) (hrt : rt r k = none) (r' i' k' : Nat) : view (up σ r i k v) r' i' k' = if r' = r ∧ i' = i ∧ k' = k then vI v else view σ r' i' k' := by
  by_cases h : r' = r ∧ i' = i ∧ k' = k
  · rw [if_pos h]
    obtain ⟨rfl, rfl, rfl⟩ := h
    simp [view, hrt, h2, h13, up]
  · rw [if_neg h]
    have e : (up σ r i k v).1 r' i' k' = σ.1 r' i' k' := if_neg h
    unfold view
    rw [e]
    rfl
/-- a cell was written at one place: the state -/
theorem Rel.put {w : WX} {ad : Nat → Nat → Nat} {σ : SS} {H H' : Heap} {r i k : Nat} {v : Int32} (h : Rel w ad σ H) (hg : gal σ r i) (h2 : r ≠ 2) (h13 : r ≠ 13) (hrt : rt r k = none) (hz : H'.size = H.size) (ho : ∀ q, q ≠ ad r i → H'[q]? = H[q]?) (hc : cellOk w ad (up σ r i k v) r i H') : Rel w ad (up σ r i k v) H' := by
  have hb := (h.2.2.1 r i hg).1
  refine ⟨by rw [hz]; exact h.1, fun q hq => by rw [ho q (by omega)]; exact h.2.1 q hq, fun r' i' hg' => ?_, h.2.2.2.1, h.2.2.2.2⟩
  by_cases he : r' = r ∧ i' = i
  · obtain ⟨rfl, rfl⟩ := he
    exact ⟨hb, hc⟩
  · refine ⟨(h.2.2.1 r' i' hg').1, ?_⟩
    have hne : ad r' i' ≠ ad r i := fun e => he (h.2.2.2.1 r' i' r i hg' hg e)
    have hc' := (h.2.2.1 r' i' hg').2
    have hv : ∀ k', view (up σ r i k v) r' i' k' = view σ r' i' k' := fun k' => by rw [view_up h2 h13 hrt, if_neg (fun q => he ⟨q.1, q.2.1⟩)]
    unfold cellOk at hc' ⊢
    simp only [hv]
    split
    · rename_i hr
      rw [hr] at hc'
      exact t_OB.kept hc' (ho _ hne)
    · rename_i hr
      rw [hr] at hc'
      rw [ho _ hne]
      exact hc'
    · trivial
theorem hal_up {σ : SS} {r i k : Nat} {v : Int32} (u : MV) : hal (up σ r i k v) u = hal σ u := rfl
theorem alv_up {σ : SS} {r i k : Nat} {v : Int32} (r' i' : Nat) : alv (up σ r i k v) r' i' = alv σ r' i' := rfl
section HEAPROWS
variable {d : Nat} {X : MX} {Y : MY} {b : Nat × Nat} {mi : MI} {pc pc' : Nat} {lv : List (Option MV)} {st : List MV} {σ : SS} {res : RES} {α : Type} {rr : α}
theorem okX.hts (ok : okX d X Y mi) : ∀ w ∈ mtbl, w.before X.2.2.2.2.2.2.1 X.2.2.2.2.1 = true := fun w hw => nw_use hw (ok.2.2.2.2.2.2.1.1 w hw)
theorem okX.env (ok : okX d X Y mi) : EnvW Y.1 X.2.2.2.2.1 := ok.2.2.2.2.2.2.1
theorem okX.own (ok : okX d X Y mi) : X.2.2.2.2.1.vm.findClass mi.1.cls = some X.2.2.2.2.2.1.cls := ok.2.2.2.2.1
theorem r_get {r i k ci N idx : Nat} {v : MV} (hf : FL mi.1.cls idx ci N k) (hd : decode mi.2.1 pc = .ok (.getfield idx, 3)) (hrg : rg r = some (.inl ci, N)) (hv : view σ r i k = v) (hh : gal σ r i → hal σ v) (hp : pc + 3 = pc') (k : WM d X Y b mi pc' lv (v :: st) σ res) : WM d X Y b mi pc lv (vR r i :: st) σ res := by
  subst hp
  intro ok ad H locs ls cells slots h
  have hg : gal σ r i := gal_of (hh1 h.hst) hrg
  obtain ⟨C, T, hcl, hk, hTC, hlink, hin⟩ := hf
  have hc := (h.1.2.2.1 r i hg).2
  unfold cellOk at hc
  rw [hrg] at hc
  obtain ⟨cell, q1, q2, q3, q4⟩ := hc
  obtain ⟨hS, hfc, kC, hkC, hkind⟩ := ok.env.2.1 ci _ hcl
  obtain ⟨cf, kf, fi, f, hi, hsl⟩ := hS _ hk
  have hst := (u_facts hfc hkC (u_lays ok.hts hin hk) hi).1
  have hl := ok.hts _ hlink
  refine W.getf ok.1 ok.2.1 ok.own hl (by rw [← hTC]; exact hi) hst q1 (by rw [q3]; exact fun h => by cases h) (v := cv ad v) ?_ rfl rfl hd (k ok ad H locs ls cells slots (h.stk (hc_ (hh hg) (ht1 h.hst))))
  rw [hsl, q4 _ hk, ← hv]
theorem narrow_z {v : Int32} (h : v = 0 ∨ v = 1) : narrow .boolean (.int v) = .int v := by
  rcases h with rfl | rfl <;> rfl
theorem fits_z {v : Int32} (h : v = 0 ∨ v = 1) : fits .boolean (.int v) = true := by
  rcases h with rfl | rfl <;> rfl
theorem r_put {r i k ci N idx : Nat} {v : Int32} {ty : FieldType} (hf : FL mi.1.cls idx ci N k) (hw : FW ci N k ty) (hn : narrow ty (.int v) = .int v) (hfit : fits ty (.int v) = true) (hd : decode mi.2.1 pc = .ok (.putfield idx, 3)) (hrg : rg r = some (.inl ci, N)) (h2 : r ≠ 2) (h13 : r ≠ 13) (hrt : rt r k = none) (hp : pc + 3 = pc') (kk : WM d X Y b mi pc' lv st (up σ r i k v) res) : WM d X Y b mi pc lv (vI v :: vR r i :: st) σ res := by
  subst hp
  intro ok ad H locs ls cells slots h
  have hg : gal σ r i := gal_of (hh1 (ht1 h.hst)) hrg
  obtain ⟨C, T, hcl, hk, hTC, hlink, hin⟩ := hf
  obtain ⟨C', T', tf, hcl', hfin, hty, htf, hnm⟩ := hw
  cases hcl.symm.trans hcl'
  have hc := (h.1.2.2.1 r i hg).2
  unfold cellOk at hc
  rw [hrg] at hc
  obtain ⟨cell, q1, q2, q3, q4⟩ := hc
  have hK : va_K Y.1.1 vwCl [] X.2.2.2.2.1 := ⟨ok.env.2.1, fun k q h => by simp at h⟩
  have hap := va_apart (own := C) ok.hts hin tf htf hnm hK hcl
  obtain ⟨hS, hfc, kC, hkC, hkind⟩ := ok.env.2.1 ci _ hcl
  obtain ⟨cf, kf, fi, f, hi, hsl⟩ := hS _ hk
  have hlay := ok.hts _ (hin _ (u_in_lay hk))
  unfold u_lay at hlay
  rw [if_neg (by rw [hfin]; decide)] at hlay
  have hst := (u_facts hfc hkC (u_lays ok.hts hin hk) hi).1
  have h6 := u_store hfc hkC hkind hlay hi hty hn hfit
  refine W.putK ok.1 ok.2.1 (f := f) ⟨ok.own, ok.hts _ hlink, ⟨_, _, _, by rw [← hTC]; exact hi⟩, hst⟩ (by rw [q2]; exact h6) q1 q3 (by rw [hsl]; exact k2_hasslot (q4 k hk)) rfl rfl hd fun H' e1 e2 e3 => ?_
  rw [hsl] at e1 ⊢
  refine kk ok ad H' _ ls cells slots ⟨Rel.put h.1 hg h2 h13 hrt e2 e3 ?_, h.2.1, fun q hq => ?_, h.lv, h.hlv, ht1 (ht1 h.hst), h.2.2.2.2.2.2⟩
  · unfold cellOk
    rw [hrg]
    refine t_OB.to (V := updV (fun j => cv ad (view σ r i j)) k (.int v)) ⟨_, e1, q2, q3, t_set q4 hap hk _⟩ (fun j _ => ?_)
    rw [view_up h2 h13 hrt]
    by_cases hj : j = k
    · subst hj
      simp [updV, cv]
    · simp [updV, hj]
  · rcases List.mem_append.mp hq with h1 | h1
    · exact h.2.2.1 q h1
    · rw [List.mem_singleton.mp h1]
      exact (h.1.2.2.1 r i hg).1
theorem r_iaload {r i n : Nat} {j : Int32} {A : Option α} (hd : decode mi.2.1 pc = .ok (.iaload, 1)) (hrg : rg r = some (.inr 0, n)) (hv : ∀ k, view σ r i k = vI (σ.1 r i k)) (hp : pc + 1 = pc') (h : chk (inr j n) A = some rr) (k : A = some rr → WM d X Y b mi pc' lv (vI (σ.1 r i (ix j)) :: st) σ res) : WM d X Y b mi pc lv (vI j :: vR r i :: st) σ res := by
  subst hp
  obtain ⟨hin, h⟩ := chk_t h
  intro ok ad H locs ls cells slots hD
  have hg : gal σ r i := gal_of (hh1 (ht1 hD.hst)) hrg
  have hc := (hD.1.2.2.1 r i hg).2
  unfold cellOk at hc
  rw [hrg] at hc
  have hlt : j.toNatClampNeg < n := Nat.not_le.mp fun q => hin (Or.inr q)
  exact W.iald (v := .int (σ.1 r i (ix j))) ok.1 ok.2.1 hc ((ok.env.2.2.1 0 (by decide)).1 n _) (fun q => by cases q) (by rw [arrV_size]; exact hin) (by rw [arrV_read _ _ hlt, hv]; rfl) rfl rfl hd (k h ok ad H locs ls cells slots (hD.stk (hc_ trivial (ht1 (ht1 hD.hst)))))
theorem r_baload {r i n : Nat} {j : Int32} {A : Option α} (hd : decode mi.2.1 pc = .ok (.baload, 1)) (hrg : rg r = some (.inr 1, n)) (hv : ∀ k, view σ r i k = vI (σ.1 r i k)) (hp : pc + 1 = pc') (h : chk (inr j n) A = some rr) (k : A = some rr → WM d X Y b mi pc' lv (vI (σ.1 r i (ix j)) :: st) σ res) : WM d X Y b mi pc lv (vI j :: vR r i :: st) σ res := by
  subst hp
  obtain ⟨hin, h⟩ := chk_t h
  intro ok ad H locs ls cells slots hD
  have hg : gal σ r i := gal_of (hh1 (ht1 hD.hst)) hrg
  have hc := (hD.1.2.2.1 r i hg).2
  unfold cellOk at hc
  rw [hrg] at hc
  have hlt : j.toNatClampNeg < n := Nat.not_le.mp fun q => hin (Or.inr q)
  exact W.zald (v := .int (σ.1 r i (ix j))) ok.1 ok.2.1 hc ((ok.env.2.2.1 1 (by decide)).1 n _) (fun q => by cases q) (by rw [arrV_size]; exact hin) (by rw [arrV_read _ _ hlt, hv]; rfl) rfl rfl hd (k h ok ad H locs ls cells slots (hD.stk (hc_ trivial (ht1 (ht1 hD.hst)))))
/-- a row of references: pieces (2), assemblies (13) -/
theorem r_aaload {r i n t a : Nat} {c : SS → Nat} {j : Int32} {A : Option α} (hd : decode mi.2.1 pc = .ok (.aaload, 1)) (hrg : rg r = some (.inr a, n)) (ha : a < 4) (hty : (aty a).isReference = true) (hv : ∀ k, view σ r i k = vO t (if k < c σ then some k else none)) (hh : ∀ k, k < c σ → alv σ t k) (hp : pc + 1 = pc') (h : chk (inr j n) A = some rr) (k : A = some rr → WM d X Y b mi pc' lv (vO t (if ix j < c σ then some (ix j) else none) :: st) σ res) : WM d X Y b mi pc lv (vI j :: vR r i :: st) σ res := by
  subst hp
  obtain ⟨hin, h⟩ := chk_t h
  intro ok ad H locs ls cells slots hD
  have hg : gal σ r i := gal_of (hh1 (ht1 hD.hst)) hrg
  have hc := (hD.1.2.2.1 r i hg).2
  unfold cellOk at hc
  rw [hrg] at hc
  have hlt : j.toNatClampNeg < n := Nat.not_le.mp fun q => hin (Or.inr q)
  refine W.aald (v := cv ad (vO t (if ix j < c σ then some (ix j) else none))) ok.1 ok.2.1 hc ((ok.env.2.2.1 a ha).1 n _) hty (fun q => by cases q) (by rw [arrV_size]; exact hin) (by rw [arrV_read _ _ hlt, hv]) rfl rfl hd (k h ok ad H locs ls cells slots (hD.stk (hc_ ?_ (ht1 (ht1 hD.hst)))))
  by_cases hj : ix j < c σ
  · rw [if_pos hj]
    exact hh _ hj
  · rw [if_neg hj]
    trivial
theorem r_arrst {r i n : Nat} {j v x : Int32} {H H' : Heap} {w : WX} {ad : Nat → Nat → Nat} {ty : Nat} (hR : Rel w ad σ H) (hg : gal σ r i) (hrg : rg r = some (.inr ty, n)) (hv : ∀ k, view σ r i k = vI (σ.1 r i k)) (h2 : r ≠ 2) (h13 : r ≠ 13) (hrt : ∀ k, rt r k = none) (e1 : H'[ad r i]? = some ((arrV (w.2.1 ty) n (fun j => cv ad (view σ r i j))).setSlot j.toNatClampNeg (.int x))) (e2 : H'.size = H.size) (e3 : ∀ q, q ≠ ad r i → H'[q]? = H[q]?) : Rel w ad (up σ r i (ix j) x) H' := by
  refine Rel.put hR hg h2 h13 (hrt _) e2 e3 ?_
  unfold cellOk
  rw [hrg]
  show H'[ad r i]? = _
  rw [e1, arrV_store]
  congr 2
  funext q
  rw [view_up h2 h13 (hrt _)]
  by_cases hq : q = ix j
  · subst hq
    simp [updV, cv]
  · have hq' : ¬ q = j.toNatClampNeg := hq
    simp [updV, hq']
theorem r_iastore {r i n : Nat} {j v : Int32} {A : Option α} (hd : decode mi.2.1 pc = .ok (.iastore, 1)) (hrg : rg r = some (.inr 0, n)) (hv : ∀ k, view σ r i k = vI (σ.1 r i k)) (h2 : r ≠ 2) (h13 : r ≠ 13) (hrt : ∀ k, rt r k = none) (hp : pc + 1 = pc') (h : chk (inr j n) A = some rr) (k : A = some rr → WM d X Y b mi pc' lv st (up σ r i (ix j) v) res) : WM d X Y b mi pc lv (vI v :: vI j :: vR r i :: st) σ res := by
  subst hp
  obtain ⟨hin, h⟩ := chk_t h
  intro ok ad H locs ls cells slots hD
  have hg : gal σ r i := gal_of (hh1 (ht1 (ht1 hD.hst))) hrg
  have hc := (hD.1.2.2.1 r i hg).2
  unfold cellOk at hc
  rw [hrg] at hc
  refine W.iast ok.1 ok.2.1 hc ((ok.env.2.2.1 0 (by decide)).1 n _) (fun q => by cases q) (by rw [arrV_size]; exact hin) rfl rfl hd fun H' e1 e2 e3 => ?_
  refine k h ok ad H' _ ls cells slots ⟨r_arrst (v := v) hD.1 hg hrg hv h2 h13 hrt e1 e2 e3, hD.2.1, fun q hq => ?_, hD.lv, hD.hlv, ht1 (ht1 (ht1 hD.hst)), hD.2.2.2.2.2.2⟩
  rcases List.mem_append.mp hq with h1 | h1
  · exact hD.2.2.1 q h1
  · rw [List.mem_singleton.mp h1]
    exact (hD.1.2.2.1 r i hg).1
theorem r_bastore {r i n : Nat} {j v : Int32} {A : Option α} (hd : decode mi.2.1 pc = .ok (.bastore, 1)) (hrg : rg r = some (.inr 1, n)) (hv : ∀ k, view σ r i k = vI (σ.1 r i k)) (h2 : r ≠ 2) (h13 : r ≠ 13) (hrt : ∀ k, rt r k = none) (hz : v = 0 ∨ v = 1) (hp : pc + 1 = pc') (h : chk (inr j n) A = some rr) (k : A = some rr → WM d X Y b mi pc' lv st (up σ r i (ix j) v) res) : WM d X Y b mi pc lv (vI v :: vI j :: vR r i :: st) σ res := by
  subst hp
  obtain ⟨hin, h⟩ := chk_t h
  intro ok ad H locs ls cells slots hD
  have hg : gal σ r i := gal_of (hh1 (ht1 (ht1 hD.hst))) hrg
  have hc := (hD.1.2.2.1 r i hg).2
  unfold cellOk at hc
  rw [hrg] at hc
  refine W.zast ok.1 ok.2.1 hc ((ok.env.2.2.1 1 (by decide)).1 n _) (fun q => by cases q) (by rw [arrV_size]; exact hin) rfl rfl hd fun H' e1 e2 e3 => ?_
  rw [narrow_z hz] at e1
  refine k h ok ad H' _ ls cells slots ⟨r_arrst (v := v) hD.1 hg hrg hv h2 h13 hrt e1 e2 e3, hD.2.1, fun q hq => ?_, hD.lv, hD.hlv, ht1 (ht1 (ht1 hD.hst)), hD.2.2.2.2.2.2⟩
  rcases List.mem_append.mp hq with h1 | h1
  · exact hD.2.2.1 q h1
  · rw [List.mem_singleton.mp h1]
    exact (hD.1.2.2.1 r i hg).1
theorem r_alen {r i n a : Nat} {x : Int32} (hd : decode mi.2.1 pc = .ok (.arraylength, 1)) (hrg : rg r = some (.inr a, n)) (ha : a < 4) (hx : Int32.ofNat n = x) (hp : pc + 1 = pc') (k : WM d X Y b mi pc' lv (vI x :: st) σ res) : WM d X Y b mi pc lv (vR r i :: st) σ res := by
  subst hp
  intro ok ad H locs ls cells slots hD
  have hg : gal σ r i := gal_of (hh1 hD.hst) hrg
  have hc := (hD.1.2.2.1 r i hg).2
  unfold cellOk at hc
  rw [hrg] at hc
  exact W.alen (n := x) ok.1 ok.2.1 hc ((ok.env.2.2.1 a ha).1 n _) (by rw [arrV_size, ← hx]) rfl rfl hd (k ok ad H locs ls cells slots (hD.stk (hc_ trivial (ht1 hD.hst))))
theorem r_saload {k : Nat} {j : Int32} {A : Option α} (hd : decode mi.2.1 pc = .ok (.iaload, 1)) (hk : k < 4) (hp : pc + 1 = pc') (h : chk (inr j (sln k)) A = some rr) (kk : A = some rr → WM d X Y b mi pc' lv (vI (sfn k (ix j)) :: st) σ res) : WM d X Y b mi pc lv (vI j :: vR (100 + k) 0 :: st) σ res := by
  subst hp
  obtain ⟨hin, h⟩ := chk_t h
  intro ok ad H locs ls cells slots hD
  obtain ⟨-, ⟨scr, h1, h2, h3, h4, -, h5, -⟩, hbl⟩ := ok.env.2.2.2.1 k hk
  have hlt : j.toNatClampNeg < sln k := Nat.not_le.mp fun q => hin (Or.inr q)
  refine W.iald (a := ad (100 + k) 0) (v := .int (sfn k (ix j))) ok.1 ok.2.1 (by rw [hD.1.2.2.2.2 k (by omega), hD.1.2.1 _ hbl]; exact h1) h2 h3 (fun q => q.elim (fun q => hin (Or.inl q)) (fun q => absurd (Nat.lt_of_lt_of_le hlt h4) (Nat.not_lt.mpr q))) (h5 _ hlt) rfl rfl hd (kk h ok ad H locs ls cells slots (hD.stk (hc_ trivial (ht1 (ht1 hD.hst)))))
theorem r_scload {j : Int32} {A : Option α} (hd : decode mi.2.1 pc = .ok (.iaload, 1)) (hp : pc + 1 = pc') (h : chk (inr j Y.1.2.2.2.2.1) A = some rr) (kk : A = some rr → WM d X Y b mi pc' lv (vI (Y.1.2.2.2.2.2 (ix j)) :: st) σ res) : WM d X Y b mi pc lv (vI j :: vR 104 0 :: st) σ res := by
  subst hp
  obtain ⟨hin, h⟩ := chk_t h
  intro ok ad H locs ls cells slots hD
  obtain ⟨⟨scr, h1, h2, h3, h4, h5⟩, hbl⟩ := ok.env.2.2.2.2
  have hlt : j.toNatClampNeg < Y.1.2.2.2.2.1 := Nat.not_le.mp fun q => hin (Or.inr q)
  exact W.iald (a := ad 104 0) (v := .int (Y.1.2.2.2.2.2 (ix j))) ok.1 ok.2.1 (by rw [hD.1.2.2.2.2 4 (by omega), hD.1.2.1 _ hbl]; exact h1) h2 h3 (by rw [h4]; exact hin) (h5 _ hlt) rfl rfl hd (kk h ok ad H locs ls cells slots (hD.stk (hc_ trivial (ht1 (ht1 hD.hst)))))
theorem r_sclen {x : Int32} (hd : decode mi.2.1 pc = .ok (.arraylength, 1)) (hx : Int32.ofNat Y.1.2.2.2.2.1 = x) (hp : pc + 1 = pc') (k : WM d X Y b mi pc' lv (vI x :: st) σ res) : WM d X Y b mi pc lv (vR 104 0 :: st) σ res := by
  subst hp
  intro ok ad H locs ls cells slots hD
  obtain ⟨⟨scr, h1, h2, h3, h4, h5⟩, hbl⟩ := ok.env.2.2.2.2
  exact W.alen (a := ad 104 0) (n := x) ok.1 ok.2.1 (by rw [hD.1.2.2.2.2 4 (by omega), hD.1.2.1 _ hbl]; exact h1) h2 (by rw [h4, ← hx]) rfl rfl hd (k ok ad H locs ls cells slots (hD.stk (hc_ trivial (ht1 hD.hst))))
theorem r_getstatic {k idx : Nat} (hl : Cond.fieldLink mi.1.cls idx "OctagonYard" (snm k) "[I" ∈ mtbl) (hd : decode mi.2.1 pc = .ok (.getstatic idx, 3)) (hk : k < 4) (hp : pc + 3 = pc') (kk : WM d X Y b mi pc' lv (vR (100 + k) 0 :: st) σ res) : WM d X Y b mi pc lv st σ res := by
  subst hp
  intro ok ad H locs ls cells slots hD
  obtain ⟨⟨cf, kf, fi, f, a, cell, h1, h2, h3, h4, h5, h6, h7, h8⟩, -, hbl⟩ := ok.env.2.2.2.1 k hk
  refine W.gets ok.1 ok.2.1 ok.own (ok.hts _ hl) h1 h2 h3 h4 (by rw [hD.1.2.1 a (by omega)]; exact h5) (fun e => by rw [e] at h6; cases h6) h7 rfl hd ?_
  have := kk ok ad H locs ls cells slots (hD.stk (hc_ (Or.inr ⟨by show 100 ≤ 100 + k; omega, by show 100 + k < 105; omega, rfl⟩) hD.hst))
  rw [← hD.1.2.2.2.2 k (by omega)]
  exact this
theorem r_getstaticN {k idx : Nat} {host : String} (hl : Cond.fieldLinkNest mi.1.cls idx "OctagonYard" (snm k) "[I" host ∈ mtbl) (hd : decode mi.2.1 pc = .ok (.getstatic idx, 3)) (hk : k < 4) (hp : pc + 3 = pc') (kk : WM d X Y b mi pc' lv (vR (100 + k) 0 :: st) σ res) : WM d X Y b mi pc lv st σ res := by
  subst hp
  intro ok ad H locs ls cells slots hD
  obtain ⟨⟨cf, kf, fi, f, a, cell, h1, h2, h3, h4, h5, h6, h7, h8⟩, -, hbl⟩ := ok.env.2.2.2.1 k hk
  refine va_WgetsN ok.1 ok.2.1 ok.own (ok.hts _ hl) h1 h2 h3 h4 (by rw [hD.1.2.1 a (by omega)]; exact h5) (fun e => by rw [e] at h6; cases h6) h7 rfl hd ?_
  have := kk ok ad H locs ls cells slots (hD.stk (hc_ (Or.inr ⟨by show 100 ≤ 100 + k; omega, by show 100 + k < 105; omega, rfl⟩) hD.hst))
  rw [← hD.1.2.2.2.2 k (by omega)]
  exact this
theorem r_lcmp {x y : Int64} (hd : decode mi.2.1 pc = .ok (.lcmp, 1)) (hp : pc + 1 = pc') (k : WM d X Y b mi pc' lv (vI (lg_cmp x y) :: st) σ res) : WM d X Y b mi pc lv (vL y :: vL x :: st) σ res := by
  subst hp
  exact WM.lift (by exact fun h _ => hc_ trivial (ht1 (ht1 h))) (fun ad ls hx hb _ k => W.lcmp hx hb hd k) k
theorem r_ldc {idx : Nat} {v : Int32} (hc : Cond.constant mi.1.cls idx v ∈ mtbl) (hd : decode mi.2.1 pc = .ok (.ldc idx, 2)) (hp : pc + 2 = pc') (k : WM d X Y b mi pc' lv (vI v :: st) σ res) : WM d X Y b mi pc lv st σ res := by
  subst hp
  intro ok ad H locs ls cells slots hD
  exact lv_ldc ok.1 ok.2.1 ok.own (ok.hts _ hc) hd (k ok ad H locs ls cells slots (hD.stk (hc_ trivial hD.hst)))
theorem r_ldcw {idx : Nat} {v : Int32} (hc : Cond.constant mi.1.cls idx v ∈ mtbl) (hd : decode mi.2.1 pc = .ok (.ldc_w idx, 3)) (hp : pc + 3 = pc') (k : WM d X Y b mi pc' lv (vI v :: st) σ res) : WM d X Y b mi pc lv st σ res := by
  subst hp
  intro ok ad H locs ls cells slots hD
  exact lv_ldcw ok.1 ok.2.1 ok.own (ok.hts _ hc) hd (k ok ad H locs ls cells slots (hD.stk (hc_ trivial hD.hst)))
theorem r_ldc2 {idx : Nat} {v : Int64} (hc : Cond.constantLong mi.1.cls idx v ∈ mtbl) (hd : decode mi.2.1 pc = .ok (.ldc2_w idx, 3)) (hp : pc + 3 = pc') (k : WM d X Y b mi pc' lv (vL v :: st) σ res) : WM d X Y b mi pc lv st σ res := by
  subst hp
  intro ok ad H locs ls cells slots hD
  exact lv_ldc2 ok.1 ok.2.1 ok.own (ok.hts _ hc) hd (k ok ad H locs ls cells slots (hD.stk (hc_ trivial hD.hst)))
end HEAPROWS
