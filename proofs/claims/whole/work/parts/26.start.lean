/-! THE CLAIM OUT OF ONE WALK OF THE LAW'S BODY. Your part is whole_start (and what it stands on); all else here is the same for every law, but numbers. -/
def R_law : String := "OctagonYardLaw"
def lw_P (b : Addr) (xs : List Int32) (args : Array Value) (s : State) : Prop := args = #[.ref b] ∧ s.IntsAt b xs ∧ xs.length ≤ 2560 ∧ (Jvm.Cond.and given_1 narrow_1).before args s = true
def lw_Q (_ : Array Value) (s : State) (o : Outcome) (t : State) : Prop := o = .returned (some (.int 1)) ∧ Framed s o t [] 600000 7302250
def lw_Z (below : List Frame) (a : Array Value) (s : State) : State → Prop := fun t => ∃ o, t.status = .running ∧ Ended t below o ∧ lw_Q a s o t
/-- the law's own end, with 1 on the stack, nothing written that was there before, its room as the claim has it -/
theorem lw_ret {p : Program} {l : Launch} {e : Env} {s : State} {m : MethodId} {below : List Frame} {meth : Method} {c : Code} {b : Nat} (hx : p.tables.exec = Jvm.exec) (hb : c.code = code) (hr : meth.sig.returnType = ret) (hlocks : meth.locks = false) {pc : Nat} {H : Heap} {ls : Array Slot} (hdg : decode code pc = .ok (.ireturn, 1)) : W p l e room_1 s m #[Value.ref b] below meth c H [] 600000 7302250 (lw_Z below #[Value.ref b] s) (F0 m pc ls [.int 1]) := by
  intro T hT X
  obtain ⟨fs, hret, hrun, hended, hW, hframe⟩ := X.leave (v := some (.int 1)) (hlocks := hlocks) (fun h => by rw [hr] at h; cases h)
  have hmeth' : T.vm.method? m = some meth := X.method'
  refine ⟨T.setFrames fs, ?_, .returned (some (.int 1)), hrun, hended, rfl, ⟨_, rfl⟩, hW, hframe⟩
  jvm_step X.here [X.here.top, hx, hb, hdg, hmeth', hr, ret, narrow_b1]
  (try refine ⟨rfl, ?_⟩); (try refine ⟨rfl, ?_⟩)
  first | (intro acts; rw [hret _ acts rfl rfl rfl]) | rw [hret _ _ rfl rfl rfl]
  exact Steps.refl _
/-- what holds at the law's entry: the machine, the code, the tables' words (any of lw_tbl by 'hts w (by decide +kernel)'), the script of L ints xs at the cell b, what the Statement gives of the start (any of its parts by flat_of_before) -/
def lw_At (p : Program) (s : State) (m : MethodId) (meth : Method) (c : Code) (b L : Nat) (xs : Nat → Int32) : Prop :=
  p.tables.exec = Jvm.exec ∧ c.code = code ∧ meth.sig.returnType = ret ∧ c.maxLocals = 4 ∧ s.vm.findClass R_law = some m.cls ∧ (∀ w ∈ lw_tbl, w.before #[Value.ref b] s = true) ∧ va_X b L xs s s.heap ∧ b < s.heap.size ∧ meth.locks = false ∧ (Jvm.Cond.and given_1 narrow_1).before #[Value.ref b] s = true
theorem W.mono {p : Program} {l : Launch} {e : Env} {R : Room} {s : State} {m : MethodId} {args : Array Value} {below : List Frame} {meth : Method} {c : Code} {H : Heap} {locs : List Loc} {cells slots : Nat} {Q Q' : State → Prop} {g : JFrame} (h : ∀ t, Q t → Q' t) (k : W p l e R s m args below meth c H locs cells slots Q g) : W p l e R s m args below meth c H locs cells slots Q' g := fun T hT X => by
  obtain ⟨t, a, b⟩ := k T hT X
  exact ⟨t, a, h t b⟩
theorem same_new {s t : State} {L : List Loc} {k n : Nat} (h : s.sameButNew t L k n) (hL : ∀ q ∈ L, s.heap.size ≤ q.base) : s.sameButNew t [] k n := by
  obtain ⟨h1, h2, h3, h4, h5, h6⟩ := h
  refine ⟨h1, h2, h3, h4, h5, fun a c hc => ?_⟩
  obtain ⟨c', g1, g2, g3, g4⟩ := h6 a c hc
  refine ⟨c', g1, g2, g3, fun i _ => g4 i (fun hm => ?_)⟩
  have e1 : s.heap.size ≤ a := hL _ hm
  have e2 := (Array.getElem?_eq_some_iff.mp hc).1
  omega
theorem nw_of {x : Cond} (hx : x ∈ mtbl) {s : State} {args : Array Value} (h : x.before args s = true) : va_Nw x s := by
  have h1 := tbl_ok hx
  rw [Bool.or_eq_true] at h1
  rcases h1 with h1 | h1
  · exact word_at (State.WarmedH.refl s) (good_of_word h1) h
  · cases x <;> first | exact va_Nw.of rfl h | cases h1
theorem bud1 : 600000 - 6 * FU + 6 * FU = 600000 := by decide +kernel
theorem bud2 : 7302250 - 45 * FU + 45 * FU = 7302250 := by decide +kernel
theorem bud3 : 0 + 1 + 15 + 1 + 40 ≤ 600000 - 6 * FU := by decide +kernel
theorem bud4 : 0 + 4 + 843 + 49 + 1864 ≤ 7302250 - 45 * FU := by decide +kernel
theorem mt_in {x : Cond} (h : x ∈ mtbl) : x ∈ lw_tbl := (List.mem_filter.mp h).1
theorem arr_at {s : State} {c : ClassId} {k : Class} {comp : ClassId} {ty : FieldType} (h2 : s.vm.classes[c]? = some k) (h3 : k.kind = .array comp ty) : ArrOfT s c ty := fun n z => ⟨fun k h => (by cases h), k, h2, comp, h3⟩
theorem sa_len : ∀ k, k < 4 → Cond.eq (.length (.static "OctagonYard" (snm k) "[I")) (.int (Int32.ofNat (sln k))) ∈ flatC (Jvm.Cond.and given_1 narrow_1) := by decide +kernel
theorem sa_arr : ∀ k, k < 4 → Cond.arrayOf (.static "OctagonYard" (snm k) "[I") .int ∈ flatC (Jvm.Cond.and given_1 narrow_1) := by decide +kernel
theorem sa_el : ∀ k, k < 4 → ∀ j, j < sln k → Cond.eq (.elem (.static "OctagonYard" (snm k) "[I") (.int (Int32.ofNat j))) (.int (sfn k j)) ∈ flatC (Jvm.Cond.and given_1 narrow_1) := by decide +kernel
theorem sa_lays : ∀ k, k < 4 → Cond.laysStatic "OctagonYard" (snm k) "[I" ∈ lw_tbl := by decide +kernel
theorem sa_small : ∀ k, k < 4 → sln k < 2 ^ 31 := by decide +kernel
theorem sa_at {s : State} {args : Array Value} (hts : ∀ w ∈ lw_tbl, w.before args s = true) (hgv : (Jvm.Cond.and given_1 narrow_1).before args s = true) (k : Nat) (hk : k < 4) : ∃ t : Nat, va_Z "OctagonYard" (snm k) "[I" (.ref t) (fun q => s.heap.size ≤ q) s s.heap ∧ va_T .int t (sln k) (fun j => .int (sfn k j)) (fun q => s.heap.size ≤ q) s s.heap ∧ t < s.heap.size := by
  have hs := flat_of_before _ hgv
  have hA : ∀ a : Nat, a < s.heap.size → ¬ (fun q => s.heap.size ≤ q) a := fun a h => Nat.not_le.mpr h
  obtain ⟨t, ht, hT⟩ := va_Tof (A := fun q => s.heap.size ≤ q) (f := fun j => .int (sfn k j)) (sa_small k hk) (hs _ (sa_arr k hk)) (va_eqt (hs _ (sa_len k hk))) (fun j hj => va_eqt (hs _ (sa_el k hk j hj))) hA
  refine ⟨t, va_Zof (hts _ (sa_lays k hk)) (hts (.initialized "OctagonYard") (by decide +kernel)) ht hA, hT, ?_⟩
  obtain ⟨cell, h1, -⟩ := hT
  exact (Array.getElem?_eq_some_iff.mp h1).1
/-- the run of the model's constructor -/
theorem w_ctorQ {ao : Bool} {d : Nat} {X : MX} {Y : MY} {bc : Nat × Nat} {mi mc : MI} {pc : Nat} {st : List Value} {ns : List NC} {idx j : Nat} {B0 : Heap} {QQ : Array Value → State → Outcome → State → Prop} (hw : KO mi.1.cls idx mc) (hM : Met X.2.1 mc.1 [.code mc.1 mc.2.1 mc.2.2.1 mc.2.2.2] { frames := d, cells := bc.1, slots := bc.2, locals := 40 * d } (va_Pc [.ref (B0.size + j)] (fun U => EnvW Y.1 U ∧ AO2 ao U ∧ CR Y.1 B0 ns U.heap)) QQ bc.1 bc.2 (fun q => B0.size ≤ q)) (hd : decode mi.2.1 pc = .ok (.invokespecial idx, 3)) (ok : okX (d + 1) X Y mi) (hA : AO2 ao X.2.2.2.2.1) {H : Heap} {locs : List Loc} {ls : Array Slot} {cells slots : Nat} (hC : CR Y.1 B0 ns H) (hls : ls.size = mi.2.2.1) (hr : (st.map fun v => v.category).sum ≤ 8) (hc : cells + bc.1 ≤ X.2.2.2.1.cells) (hs : slots + bc.2 ≤ X.2.2.2.1.slots) :
    va_Run X.1 X.2.1 X.2.2.1 X.2.2.2.1 X.2.2.2.2.1 X.2.2.2.2.2.1 X.2.2.2.2.2.2.1 X.2.2.2.2.2.2.2.1 X.2.2.2.2.2.2.2.2.1 X.2.2.2.2.2.2.2.2.2 H locs cells slots bc.1 bc.2 (F0 X.2.2.2.2.2.1 pc ls (.ref (B0.size + j) :: st)) st (QQ (Value.ref (B0.size + j) :: []).toArray) (fun q => B0.size ≤ q) := by
  obtain ⟨⟨w1, w2, w4, w5⟩, ⟨d1, d2, d3⟩, hL, hnm, hrt⟩ := hw
  rw [hrt] at w5
  rw [hrt] at hM
  exact va_runI (Ts := mtbl) (bytes := mc.2.1) (maxL := mc.2.2.1) (n := 0) ⟨ok.1, ok.2.1, ok.2.2.2.1, ok.own, ok.hts⟩ hM
    ⟨⟨rfl, rfl, ok.2.2.2.2.2.2.2.1, by have hlc := ok.2.2.2.2.2.2.2.2; show 8 + (mc.2.2.1 + 11) + 40 * d ≤ _; omega, cw_ws (ok.hts _ w5), List.mem_singleton.mpr rfl, ok.hts _ w5, ok.hts _ w4, ⟨d1, d2⟩, par_n d3, ok.hts _ w1⟩, hnm, ok.hts _ w2⟩
    (preC_of ok.env hA hC) rfl rfl hls rfl (lv_room hr) hd ⟨hc, hs⟩
theorem d_L_law_0 : decode mi_L_law.2.1 0 = .ok (.new 7, 3) := by decide +kernel
theorem d_L_law_3 : decode mi_L_law.2.1 3 = .ok (.dup, 1) := by decide +kernel
theorem d_L_law_4 : decode mi_L_law.2.1 4 = .ok (.invokespecial 9, 3) := by decide +kernel
theorem d_L_law_7 : decode mi_L_law.2.1 7 = .ok (.astore_n 1, 1) := by decide +kernel
theorem d_L_law_8 : decode mi_L_law.2.1 8 = .ok (.new 10, 3) := by decide +kernel
theorem d_L_law_11 : decode mi_L_law.2.1 11 = .ok (.dup, 1) := by decide +kernel
theorem d_L_law_12 : decode mi_L_law.2.1 12 = .ok (.invokespecial 12, 3) := by decide +kernel
theorem cbn_L_7 : CB RL 7 7 4 [.null, .null, .null, .null] := ⟨RX7, TX7, tyX7, rfl, by decide +kernel, by decide +kernel, by decide +kernel, inn_7, tyX7_ok, rfl, by decide +kernel⟩
theorem cbn_L_10 : CB RL 10 8 49 [.null, .null, .null, .null, .null, .null, .int 0, .null, .null, .null, .null, .null, .null, .null, .int 0, .null, .null, .int 0, .null, .null, .null, .null, .null, .int 0, .null, .null, .null, .int 0, .int 0, .int 0, .null, .null, .null, .null, .null, .int 0, .null, .null, .null, .null, .null, .int 0, .null, .null, .null, .null, .null, .null, .null] := ⟨RX8, TX8, tyX8, rfl, by decide +kernel, by decide +kernel, by decide +kernel, inn_8, tyX8_ok, rfl, by decide +kernel⟩
theorem ko_L_9 : KO RL 9 mi_X7_init := by unfold KO; decide +kernel
theorem ko_L_12 : KO RL 12 mi_X8_init := by unfold KO; decide +kernel
set_option maxRecDepth 100000 in
set_option maxHeartbeats 4000000 in
/-- THE LAW, from its entry, over what the pure functions answer -/
theorem whole_start_open (hpure : ∀ (L : Nat), L ≤ 2560 → ∀ xs : Nat → Int32, ∃ σ1 σ2 : SS, f_X8_init_539 σI = some ((), σ1) ∧ f_L_law_15 L xs σ1 = some (1, σ2)) {p : Program} {e : Env} {s : State} {m : MethodId} {below : List Frame} {meth : Method} {c : Code} (l : Launch) {b L : Nat} {xs : Nat → Int32} (hL : L ≤ 2560) (C0 : lw_At p s m meth c b L xs) : W p l e room_1 s m #[Value.ref b] below meth c s.heap [] 0 0 (lw_Z below #[Value.ref b] s) (entryFrame m ([Value.ref b] : List Value).toArray 4) := by
  obtain ⟨hx, hb, hr, hml, hown, hts, hX, hbl, hlocks, hgv⟩ := C0
  obtain ⟨σ1, σ2, hσ1, hσ2⟩ := hpure L hL xs
  obtain ⟨c0, i0, hK0⟩ := u_known (C := RX0) (T := TX0) (N := 5) (n := 5) hts (fun w h => mt_in (inn_0 w h)) (hts (.instantiable RX0 5) (by decide +kernel))
  obtain ⟨c1, i1, hK1⟩ := u_known (C := RX1) (T := TX1) (N := 5) (n := 5) hts (fun w h => mt_in (inn_1 w h)) (hts (.instantiable RX1 5) (by decide +kernel))
  obtain ⟨c2, i2, hK2⟩ := u_known (C := RX2) (T := TX2) (N := 5) (n := 5) hts (fun w h => mt_in (inn_2 w h)) (hts (.instantiable RX2 5) (by decide +kernel))
  obtain ⟨c3, i3, hK3⟩ := u_known (C := RX3) (T := TX3) (N := 5) (n := 5) hts (fun w h => mt_in (inn_3 w h)) (hts (.instantiable RX3 5) (by decide +kernel))
  obtain ⟨c4, i4, hK4⟩ := u_known (C := RX4) (T := TX4) (N := 5) (n := 5) hts (fun w h => mt_in (inn_4 w h)) (hts (.instantiable RX4 5) (by decide +kernel))
  obtain ⟨c5, i5, hK5⟩ := u_known (C := RX5) (T := TX5) (N := 6) (n := 6) hts (fun w h => mt_in (inn_5 w h)) (hts (.instantiable RX5 6) (by decide +kernel))
  obtain ⟨c6, i6, hK6⟩ := u_known (C := RX6) (T := TX6) (N := 3) (n := 3) hts (fun w h => mt_in (inn_6 w h)) (hts (.instantiable RX6 3) (by decide +kernel))
  obtain ⟨c7, i7, hK7⟩ := u_known (C := RX7) (T := TX7) (N := 4) (n := 4) hts (fun w h => mt_in (inn_7 w h)) (hts (.instantiable RX7 4) (by decide +kernel))
  obtain ⟨c8, i8, hK8⟩ := u_known (C := RX8) (T := TX8) (N := 49) (n := 49) hts (fun w h => mt_in (inn_8 w h)) (hts (.instantiable RX8 49) (by decide +kernel))
  obtain ⟨a0, k0, m0, f01, f02, f03⟩ := Cond.arrayClass_spec (hts (.arrayClass .int) (by decide +kernel))
  obtain ⟨a1, k1, m1, f11, f12, f13⟩ := Cond.arrayClass_spec (hts (.arrayClass .boolean) (by decide +kernel))
  have hao2 := hts (.arrayOver (.object "OctagonYard$Piece")) (by decide +kernel)
  have hao3 := hts (.arrayOver (.object "OctagonYard$Assembly")) (by decide +kernel)
  obtain ⟨m2, a2, k2, f21, -, f22, f23, f24⟩ := Cond.arrayOver_spec hao2
  obtain ⟨m3, a3, k3, f31, -, f32, f33, f34⟩ := Cond.arrayOver_spec hao3
  obtain ⟨t0, z0, w0, l0⟩ := sa_at hts hgv 0 (by decide)
  obtain ⟨t1, z1, w1, l1⟩ := sa_at hts hgv 1 (by decide)
  obtain ⟨t2, z2, w2, l2⟩ := sa_at hts hgv 2 (by decide)
  obtain ⟨t3, z3, w3, l3⟩ := sa_at hts hgv 3 (by decide)
  obtain ⟨w, hw⟩ : ∃ w : WX, w = ((fun k => ([c0, c1, c2, c3, c4, c5, c6, c7, c8] : List ClassId).getD k c0, fun k => ([i0, i1, i2, i3, i4, i5, i6, i7, i8] : List (Nat → Nat)).getD k i0), (fun k => ([a0, a1, a2, a3] : List ClassId).getD k a0), s.heap, (fun k => ([t0, t1, t2, t3, b] : List Nat).getD k 0), L, xs) := ⟨_, rfl⟩
  have hw0 : w.2.2.1 = s.heap := by rw [hw]
  have hwb : w.2.2.2.1 4 = b := by rw [hw]; rfl
  have hE : EnvW w s := by
    rw [hw]
    refine ⟨fun x hx => nw_of hx (hts x (mt_in hx)), fun k q hq => ?_, fun k hk => ?_, fun k hk => ?_, hX, hbl⟩
    · match k, hq with
    | 0, hq => cases hq; exact hK0
    | 1, hq => cases hq; exact hK1
    | 2, hq => cases hq; exact hK2
    | 3, hq => cases hq; exact hK3
    | 4, hq => cases hq; exact hK4
    | 5, hq => cases hq; exact hK5
    | 6, hq => cases hq; exact hK6
    | 7, hq => cases hq; exact hK7
    | 8, hq => cases hq; exact hK8
    | k + 9, hq => simp [vwCl] at hq
    · match k, hk with
      | 0, _ => exact ⟨arr_at f02 f03, f01⟩
      | 1, _ => exact ⟨arr_at f12 f13, f11⟩
      | 2, _ => exact ⟨arr_at f22 f23, k2, m2, f22, f23, f21, f24⟩
      | 3, _ => exact ⟨arr_at f32 f33, k3, m3, f32, f33, f31, f34⟩
      | k + 4, hk => exact absurd hk (by omega)
    · match k, hk with
      | 0, _ => exact ⟨z0, w0, l0⟩
      | 1, _ => exact ⟨z1, w1, l1⟩
      | 2, _ => exact ⟨z2, w2, l2⟩
      | 3, _ => exact ⟨z3, w3, l3⟩
      | k + 4, hk => exact absurd hk (by omega)
  have hwL : w.2.2.2.2.1 = L := by rw [hw]
  have hwx : w.2.2.2.2.2 = xs := by rw [hw]
  have hA : AO2 true s := fun _ => ⟨va_AO.of hao2, va_AO.of hao3⟩
  have ok : ∀ Y : MY, Y.1 = w → okX 20 (p, l, e, room_1, s, m, #[Value.ref b], below, meth, c) Y mi_L_law := fun Y hY => ⟨hx, hb, hr, hml, hown, hlocks, by rw [hY]; exact hE, Nat.le_of_ble_eq_true rfl, Nat.le_of_ble_eq_true rfl⟩
  refine W.mono (Q := MQ below (Qm (w, adI w, σI) (some (vI 1), σ2)) #[Value.ref b] s room_1.cells room_1.slots (fun q => w.2.2.1.size ≤ q)) (fun t ht => ?_) ?_
  · obtain ⟨oc, g1, g2, ⟨ad, g3, -⟩, Lc, ⟨g5, g6, g7⟩, g8⟩ := ht
    refine ⟨oc, g1, g2, g3, g5, g6, same_new g7 (fun q hq => ?_)⟩
    have := g8 q hq
    rw [hw0] at this
    exact this
  have hl := lv_entry ([.ref b]) (n := 4) (Nat.le_of_ble_eq_true rfl)
  rw [lg_entry_eq]
  generalize (lg_sl ([.ref b]) ++ List.replicate (4 - (lg_sl ([.ref b])).length) Slot.unset).toArray = ls at hl ⊢
  have hl : lv_has ls 4 [(0, .ref b)] := hl
  refine w_new (X := (p, l, e, room_1, s, m, #[Value.ref b], below, meth, c)) (Y := (w, adI w, σI)) (mi := mi_L_law) cbn_L_7 d_L_law_0 (ok _ rfl) (Nat.le_of_ble_eq_true rfl) (Nat.le_of_ble_eq_true rfl) fun H1 z1 o1 q1 => ?_
  refine lv_dup hx hb d_L_law_3 rfl ?_
  have hCR : CR w s.heap [.inl (7, [.null, .null, .null, .null])] H1 := CR.push (ns := []) ⟨by simp, fun _ _ => rfl, fun k c h => by simp at h⟩ z1 o1 q1
  intro T hT Xs
  obtain ⟨v, st0, t, T', Lx, h0, X', hL', e1, e2, ⟨ho, hCR2⟩, go⟩ := w_ctorO (d := 19) (X := (p, l, e, room_1, s, m, #[Value.ref b], below, meth, c)) (Y := (w, adI w, σI)) (mi := mi_L_law) (locs := []) (cells := 0 + 1) (slots := 0 + 4) (st := [.ref s.heap.size]) (ao := true) ko_L_9 (mc_X7_init (d := 17) (B := s.heap)) d_L_law_4 (ok _ rfl) hA hCR hl.1 (Nat.le_of_ble_eq_true rfl) (Nat.le_of_ble_eq_true rfl) (Nat.le_of_ble_eq_true rfl) T hT Xs
  cases ho
  rw [← e1] at hCR2
  suffices hW : W p l e room_1 s m #[Value.ref b] below meth c T'.heap ([] ++ Lx) (0 + 1 + 15) (0 + 4 + 843) (MQ below (Qm (w, adI w, σI) (some (vI 1), σ2)) #[Value.ref b] s room_1.cells room_1.slots (fun q => w.2.2.1.size ≤ q)) (F0 m 7 ls [.ref s.heap.size]) by
    obtain ⟨t2, s2, q2⟩ := hW T' rfl X'
    exact ⟨t2, go t2 s2, q2⟩
  have hloc : ∀ q ∈ ([] ++ Lx : List Loc), s.heap.size ≤ q.base := fun q hq => hL' q (by simpa using hq)
  generalize ([] ++ Lx : List Loc) = locs at hloc ⊢
  generalize T'.heap = H2 at hCR2 ⊢
  refine lv_astore_n (lv' := [(1, .ref s.heap.size), (0, .ref b)]) hx hb d_L_law_7 rfl hl (by decide) rfl (fun ls hl => ?_)
  refine w_new (X := (p, l, e, room_1, s, m, #[Value.ref b], below, meth, c)) (Y := (w, adI w, σI)) (mi := mi_L_law) cbn_L_10 d_L_law_8 (ok _ rfl) (Nat.le_of_ble_eq_true rfl) (Nat.le_of_ble_eq_true rfl) fun H3 z3 o3 q3 => ?_
  have hz2 : H2.size = s.heap.size + 16 := hCR2.1
  rw [hz2]
  refine lv_dup hx hb d_L_law_11 rfl ?_
  have hCR3 := CR.push hCR2 z3 o3 q3
  intro T hT Xs
  have hM := md_init (d := 17) hσ1 l w
  rw [hw0] at hM
  obtain ⟨v, st0, t, T', Lx, h0, X', hL', e1, e2, ⟨ad, ho, hRel, hag, -⟩, go⟩ := w_ctorQ (d := 19) (bc := (40, 1864)) (j := 16) (B0 := s.heap) (X := (p, l, e, room_1, s, m, #[Value.ref b], below, meth, c)) (Y := (w, adI w, σI)) (mi := mi_L_law) (locs := locs) (cells := 0 + 1 + 15 + 1) (slots := 0 + 4 + 843 + 49) (st := [.ref (s.heap.size + 16)]) (ao := true) ko_L_12 hM d_L_law_12 (ok _ rfl) hA hCR3 hl.1 (Nat.le_of_ble_eq_true rfl) (Nat.le_of_ble_eq_true rfl) (Nat.le_of_ble_eq_true rfl) T hT Xs
  cases ho
  rw [← e1] at hRel
  suffices hW : W p l e room_1 s m #[Value.ref b] below meth c T'.heap (locs ++ Lx) (0 + 1 + 15 + 1 + 40) (0 + 4 + 843 + 49 + 1864) (MQ below (Qm (w, adI w, σI) (some (vI 1), σ2)) #[Value.ref b] s room_1.cells room_1.slots (fun q => w.2.2.1.size ≤ q)) (F0 m 15 ls [.ref (s.heap.size + 16)]) by
    obtain ⟨t2, s2, q2⟩ := hW T' rfl X'
    exact ⟨t2, go t2 s2, q2⟩
  have hI : ∀ r, gal σI r 0 → ad r 0 = adI w r 0 := fun r h => (hag r 0 (Or.inl h)).2
  have e0 : ad 0 0 = s.heap.size := by rw [hI 0 ⟨rfl, rfl⟩, ← hw0]; rfl
  have e25 : ad 25 0 = s.heap.size + 16 := by rw [hI 25 ⟨rfl, rfl⟩, ← hw0]; rfl
  have e104 : ad 104 0 = b := (hRel.2.2.2.2 4 (by decide)).trans hwb
  have hrun : f_L_law_15 w.2.2.2.2.1 w.2.2.2.2.2 σ1 = some (1, σ2) := by rw [hwL, hwx]; exact hσ2
  have K := t_L_law_15 (d := 4) (X := (p, l, e, room_1, s, m, #[Value.ref b], below, meth, c)) (Y := (w, ad, σ1)) hrun (ok _ rfl) ad T'.heap (locs ++ Lx) ls (600000 - 6 * FU) (7302250 - 45 * FU) ⟨hRel, fun r i h => ⟨h, rfl⟩, fun q hq => ?_, ⟨hl.1, hl.2.1, fun i v hi => ?_⟩, fun v hv => ?_, fun v hv => ?_, bud1, bud2⟩
  · refine W.widen (k := 600000 - 6 * FU) (n := 7302250 - 45 * FU) bud3 bud4 ?_
    refine W.mono (fun t ht => ?_) (W.eq (g2 := F0 m 15 ls ([vR 25 0].map (cv ad))) ?_ K)
    · obtain ⟨oc, g1, g2, ⟨ad', g3, g4, g4b, g4c⟩, Lc, g5, g8⟩ := ht
      refine ⟨oc, g1, g2, ⟨ad', g3, g4, fun r i h => ?_, g4c⟩, Lc, g5, g8⟩
      have h1 := hag r i h
      have h2 := g4b r i h1.1
      exact ⟨h2.1, h2.2.trans h1.2⟩
    · show F0 m 15 ls [.ref (s.heap.size + 16)] = F0 m 15 ls [.ref (ad 25 0)]
      rw [e25]
  · rw [hw0]
    rcases List.mem_append.mp hq with h1 | h1
    · exact hloc q h1
    · exact hL' q h1
  · match i, hi with
    | 0, hi =>
      cases hi
      show ls[0]? = some (.val (.ref (ad 104 0)))
      rw [e104]
      exact lv_at hl 1 rfl
    | 1, hi =>
      cases hi
      show ls[1]? = some (.val (.ref (ad 0 0)))
      rw [e0]
      exact lv_at hl 0 rfl
    | 2, hi => cases hi
    | 3, hi => cases hi
    | i + 4, hi => simp at hi
  · rcases List.mem_cons.mp hv with e | e
    · cases e
      exact Or.inr ⟨by decide, by decide, rfl⟩
    · rcases List.mem_cons.mp e with e | e
      · cases e
        exact (hag 0 0 (Or.inl ⟨rfl, rfl⟩)).1
      · rcases List.mem_cons.mp e with e | e
        · cases e
        · rcases List.mem_cons.mp e with e | e
          · cases e
          · cases e
  · rcases List.mem_cons.mp hv with e | e
    · rw [e]
      exact (hag 25 0 (Or.inl ⟨rfl, rfl⟩)).1
    · cases e
