/-! ===== THE SMALL MACHINE: a state of the two systems is a table of ints, how many pieces and how many assemblies were made; references are fixed by the regions ===== -/
abbrev MV : Type := Int32 ⊕ (Int64 ⊕ Option (Nat × Nat))
abbrev vI (x : Int32) : MV := Sum.inl x
abbrev vL (x : Int64) : MV := Sum.inr (Sum.inl x)
abbrev vN : MV := Sum.inr (Sum.inr none)
abbrev vR (r i : Nat) : MV := Sum.inr (Sum.inr (some (r, i)))
abbrev vO (r : Nat) (o : Option Nat) : MV := Sum.inr (Sum.inr (o.map (fun i => (r, i))))
/-- ints by region, number, place; pieces made; assemblies made -/
abbrev SS : Type := (Nat → Nat → Nat → Int32) × Nat × Nat
def cv (ad : Nat → Nat → Nat) : MV → Value
  | .inl x => .int x
  | .inr (.inl x) => .long x
  | .inr (.inr none) => .null
  | .inr (.inr (some q)) => .ref (ad q.1 q.2)
def up (σ : SS) (r i k : Nat) (v : Int32) : SS := (fun r' i' k' => if r' = r ∧ i' = i ∧ k' = k then v else σ.1 r' i' k', σ.2)
/-- regions: an object of a class (its number in vwCl, its fields) or an array (its kind, its length) -/
def rgT : List (Option ((Nat ⊕ Nat) × Nat)) := [some (.inl 7, 4), some (.inl 6, 3), some (.inr 2, 60), some (.inl 2, 5), some (.inr 0, 8), some (.inr 0, 8), some (.inr 0, 64), some (.inl 5, 6), some (.inr 0, 40), some (.inr 0, 40), some (.inr 0, 40), some (.inr 0, 40), some (.inl 0, 5), some (.inr 3, 12), some (.inr 0, 500), some (.inr 0, 12), some (.inl 4, 5), some (.inl 3, 5), some (.inr 0, 8), some (.inr 0, 8), some (.inr 0, 8), some (.inr 0, 8), some (.inl 1, 5), some (.inr 0, 20), some (.inr 1, 20), some (.inl 8, 49), none, none, none, none, none, none, none, none, none, none, none, none, none, none, some (.inr 0, 8), some (.inr 0, 8), some (.inr 0, 8), some (.inr 0, 8), some (.inr 0, 8), some (.inr 0, 8), none, some (.inr 1, 60), some (.inr 0, 480), some (.inr 0, 60), some (.inr 0, 60), some (.inr 1, 60), some (.inr 0, 60), some (.inr 0, 8), none, some (.inr 0, 32), some (.inr 0, 32), none, some (.inr 0, 8), some (.inr 0, 8), some (.inr 0, 8), some (.inr 0, 8), some (.inr 0, 8), none, some (.inr 0, 8), some (.inr 0, 8), some (.inr 0, 64), none, none, none, some (.inr 0, 8), some (.inr 0, 8), some (.inr 0, 8), some (.inr 0, 8), some (.inr 0, 8), none, some (.inr 0, 40), some (.inr 0, 40), some (.inr 0, 40), some (.inr 0, 40), some (.inr 1, 8), none, some (.inr 0, 12), some (.inr 0, 240), some (.inr 1, 240), some (.inr 0, 12), some (.inr 1, 12), some (.inr 1, 60), some (.inr 1, 60)]
/-- of a region's fields those that refer to a region's cell of the same number -/
def rtT : List (List (Option Nat)) := [[some 1, some 3, some 7, some 12], [some 2, none, none], [], [some 4, some 5, some 6, none, none], [], [], [], [some 8, some 9, some 10, some 11, none, none], [], [], [], [], [some 13, none, some 14, none, some 15], [], [], [], [some 17, none, none, none, none], [some 18, some 19, some 20, some 21, none], [], [], [], [], [some 23, some 24, none, none, none], [], [], [some 40, some 41, some 42, some 43, some 44, some 45, none, some 47, some 48, some 49, some 50, some 51, some 52, some 53, none, some 55, some 56, none, some 58, some 59, some 60, some 61, some 62, none, some 64, some 65, some 66, none, none, none, some 70, some 71, some 72, some 73, some 74, none, some 76, some 77, some 78, some 79, some 80, none, some 82, some 83, some 84, some 85, some 86, some 87, some 88], [], [], [], [], [], [], [], [], [], [], [], [], [], [], [], [], [], [], [], [], [], [], [], [], [], [], [], [], [], [], [], [], [], [], [], [], [], [], [], [], [], [], [], [], [], [], [], [], [], [], [], [], [], [], [], [], [], [], [], [], [], [], []]
def rg (r : Nat) : Option ((Nat ⊕ Nat) × Nat) := (rgT[r]?).getD none
def rt (r k : Nat) : Option Nat := (((rtT[r]?).getD [])[k]?).getD none
/-- what a place holds -/
def view (σ : SS) (r i k : Nat) : MV := match rt r k with
  | some t => vR t i
  | none => if r = 2 then (if k < σ.2.1 then vR 16 k else vN) else if r = 13 then (if k < σ.2.2 then vR 22 k else vN) else vI (σ.1 r i k)
/-- which cells there are -/
def gal (σ : SS) (r i : Nat) : Prop := (rg r).isSome = true ∧ (if r < 16 then i = 0 else if r < 22 then i < σ.2.1 else if r < 25 then i < σ.2.2 else i = 0)
def alv (σ : SS) (r i : Nat) : Prop := gal σ r i ∨ (100 ≤ r ∧ r < 105 ∧ i = 0)
def hal (σ : SS) : MV → Prop
  | .inr (.inr (some q)) => alv σ q.1 q.2
  | _ => True
def aty : Nat → FieldType
  | 0 => .int
  | 1 => .boolean
  | 2 => .object "OctagonYard$Piece"
  | _ => .object "OctagonYard$Assembly"
def snm : Nat → String
  | 0 => "ACROSS"
  | 1 => "UPWARD"
  | 2 => "ROUND"
  | _ => "TURNS"
def slst : Nat → List Int32
  | 0 => [1, 0, 1, 1, -1, 0, -1, -1]
  | 1 => [0, 1, 1, -1, 0, -1, -1, 1]
  | 2 => [6, 5, 3, 0, 2, 1, 7, 4]
  | _ => [5, 0, 3, 6, 1, 4, 7, 2, 4, 1, 7, 6, 0, 5, 3, 2, 1, 0, 2, 7, 5, 4, 6, 3]
def sln (k : Nat) : Nat := (slst k).length
def sfn (k j : Nat) : Int32 := (slst k).getD j 0
/-- classes and slots, array classes, the heap at the start, the static arrays' addresses (the fifth: the script), the script's length and ints -/
abbrev WX : Type := va_G × (Nat → ClassId) × Heap × (Nat → Nat) × Nat × (Nat → Int32)
def cellOk (w : WX) (ad : Nat → Nat → Nat) (σ : SS) (r i : Nat) (H : Heap) : Prop := match rg r with
  | some (.inl ci, N) => t_OB (ad r i) (w.1.1 ci) N (w.1.2 ci) H (fun k => cv ad (view σ r i k))
  | some (.inr ty, n) => H[ad r i]? = some (arrV (w.2.1 ty) n (fun j => cv ad (view σ r i j)))
  | none => True
def Rel (w : WX) (ad : Nat → Nat → Nat) (σ : SS) (H : Heap) : Prop := w.2.2.1.size ≤ H.size ∧ (∀ q : Nat, q < w.2.2.1.size → H[q]? = w.2.2.1[q]?) ∧ (∀ r i, gal σ r i → w.2.2.1.size ≤ ad r i ∧ cellOk w ad σ r i H) ∧ (∀ r i r' i', gal σ r i → gal σ r' i' → ad r i = ad r' i' → r = r' ∧ i = i') ∧ (∀ k : Nat, k < 5 → ad (100 + k) 0 = w.2.2.2.1 k)
def nestWord : Cond → Bool
  | .fieldLinkNest _ _ _ _ _ _ => true
  | .methodLinkNest _ _ _ _ => true
  | _ => false
/-- the tables' words that a call keeps -/
def mtbl : List Cond := lw_tbl.filter (fun w => goodWord w || nestWord w)
theorem tbl_ok {x : Cond} (h : x ∈ mtbl) : (goodWord x || nestWord x) = true := (List.mem_filter.mp h).2
def EnvW (w : WX) (U : State) : Prop := (∀ x ∈ mtbl, va_Nw x U) ∧ (∀ (c : Nat) (q : vw_C), vwCl[c]? = some q → u_Kn U q.1 q.2.1 q.2.2 (w.1.1 c) (w.1.2 c)) ∧ (∀ k : Nat, k < 4 → ArrOfT U (w.2.1 k) (aty k) ∧ va_RA U (w.2.1 k) (aty k)) ∧ (∀ k : Nat, k < 4 → va_Z "OctagonYard" (snm k) "[I" (.ref (w.2.2.2.1 k)) (fun q => w.2.2.1.size ≤ q) U w.2.2.1 ∧ va_T .int (w.2.2.2.1 k) (sln k) (fun j => .int (sfn k j)) (fun q => w.2.2.1.size ≤ q) U w.2.2.1 ∧ w.2.2.2.1 k < w.2.2.1.size) ∧ va_X (w.2.2.2.1 4) w.2.2.2.2.1 w.2.2.2.2.2 U w.2.2.1 ∧ w.2.2.2.1 4 < w.2.2.1.size
theorem nw_warm {x : Cond} (hx : x ∈ mtbl) {s U : State} (hW : s.WarmedH U.vm) (h : va_Nw x s) : va_Nw x U := by
  have h1 := tbl_ok hx
  rw [Bool.or_eq_true] at h1
  rcases h1 with h1 | h1
  · exact word_at hW (good_of_word h1) h
  · cases x <;> first | exact va_Nw.warmF hW h | exact va_Nw.warmM hW h | cases h1
theorem nw_use {x : Cond} (hx : x ∈ mtbl) {s : State} {args : Array Value} (h : va_Nw x s) : x.before args s = true := by
  have h1 := tbl_ok hx
  rw [Bool.or_eq_true] at h1
  rcases h1 with h1 | h1
  · exact word_at (State.WarmedH.refl s) (good_of_word h1) h
  · cases x <;> first | exact va_Nw.use rfl h | cases h1
theorem EnvW.warm {w : WX} {s U : State} (hW : s.WarmedH U.vm) (h : EnvW w s) : EnvW w U :=
  ⟨fun x hx => nw_warm hx hW (h.1 x hx), fun c q hq => u_Kn_moved hW.alike (h.2.1 c q hq), fun k hk => ⟨arrOfT_moved hW.alike (h.2.2.1 k hk).1, (h.2.2.1 k hk).2.moved hW.alike⟩, fun k hk => ⟨(h.2.2.2.1 k hk).1.moved hW.alike, (h.2.2.2.1 k hk).2.1.moved hW.alike, (h.2.2.2.1 k hk).2.2⟩, h.2.2.2.2.1.moved hW.alike, h.2.2.2.2.2⟩
theorem EnvW.calling {w : WX} {U : State} {g : JFrame} {mk : MethodId} {a : Array Value} (h : EnvW w U) : EnvW w (U.calling g mk a) := EnvW.warm (U := U.calling g mk a) (State.WarmedH.refl U) h

