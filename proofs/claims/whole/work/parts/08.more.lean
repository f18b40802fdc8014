/-! ===== switches, Math, arraycopy ===== -/
theorem ite_c {α : Type} {c G : Prop} [Decidable c] {A B : Option α} {rr : α} (h : (if c then A else B) = some rr) (kT : c → A = some rr → G) (kF : ¬ c → B = some rr → G) : G := by
  by_cases hc : c
  · rw [if_pos hc] at h
    exact kT hc h
  · rw [if_neg hc] at h
    exact kF hc h
/-- a stretch of an array onto another -/
def cpy (σ : SS) (r0 i0 sp r1 i1 dp n : Nat) : SS := (fun r' i' k' => if r' = r1 ∧ i' = i1 then va_cpy (σ.1 r0 i0) (σ.1 r1 i1) sp dp n k' else σ.1 r' i' k', σ.2)
section MORE
variable {d : Nat} {X : MX} {Y : MY} {b b' bc : Nat × Nat} {mi mc : MI} {pc pc' : Nat} {lv : List (Option MV)} {st : List MV} {σ σ' : SS} {res : RES} {α : Type} {rr : α}
theorem r_tswIn {dflt lo hi : Int} {offs : Array Int} {len : Nat} {x c : Int32} {off : Int} (hd : decode mi.2.1 pc = .ok (.tableswitch dflt lo hi offs, len)) (hx : x = c) (h1 : ¬ c.toInt < lo) (h2 : ¬ hi < c.toInt) (ho : offs[(c.toInt - lo).toNat]? = some off) (ht : (pc : Int) + off = (pc' : Int)) (k : WM d X Y b mi pc' lv st σ res) : WM d X Y b mi pc lv (vI x :: st) σ res := by
  subst hx
  exact WM.lift (by exact fun h _ => ht1 h) (fun ad ls hx hb _ k => lv_tableIn hx hb hd h1 h2 ho ht k) k
theorem r_tswOut {dflt lo hi : Int} {offs : Array Int} {len : Nat} {x : Int32} (hd : decode mi.2.1 pc = .ok (.tableswitch dflt lo hi offs, len)) (h : x.toInt < lo ∨ hi < x.toInt) (ht : (pc : Int) + dflt = (pc' : Int)) (k : WM d X Y b mi pc' lv st σ res) : WM d X Y b mi pc lv (vI x :: st) σ res :=
  WM.lift (by exact fun h _ => ht1 h) (fun ad ls hx hb _ k => lv_tableOut hx hb hd h ht k) k
/-- Math.max, Math.min -/
def CX (own : String) (idx : Nat) (y : MethodName) (cc : ByteArray) : Prop := Cond.methodLink own idx y ∈ mtbl ∧ Cond.static y ∈ mtbl ∧ Cond.initialized "java/lang/Math" ∈ mtbl ∧ Cond.code y cc 2 (some .int) ∈ mtbl
theorem r_mmax {idx : Nat} {x y : Int32} (hw : CX mi.1.cls idx Lib.Math.max.name Lib.Math.max.code) (hd : decode mi.2.1 pc = .ok (.invokestatic idx, 3)) (hs : Nat.ble (catS st) 8 = true) (hp : pc + 3 = pc') (k : WM (d + 1) X Y b mi pc' lv (vI (if x < y then y else x) :: st) σ res) : WM (d + 1) X Y b mi pc lv (vI y :: vI x :: st) σ res := by
  subst hp
  intro ok ad H locs ls cells slots hD
  have hs' := Nat.le_of_ble_eq_true hs
  refine va_mmax ok.1 ok.2.1 (by rw [ok.2.2.2.1]; exact hD.lv.1.symm) ok.own (ok.hts _ hw.1) (ok.hts _ hw.2.1) (ok.hts _ hw.2.2.1) (ok.hts _ hw.2.2.2) (by have hlc := ok.2.2.2.2.2.2.2.1; omega) ?_ (dyn_room hD).1 (dyn_room hD).2 hd (k ok ad H locs ls cells slots (hD.stk (hc_ trivial (ht1 (ht1 hD.hst)))))
  have e := catS_eq (ad := ad) st
  have hlc := ok.2.2.2.2.2.2.2.2
  show ((st.map (cv ad)).map fun v => v.category).sum + 13 ≤ _
  omega
theorem r_mmin {idx : Nat} {x y : Int32} (hw : CX mi.1.cls idx Lib.Math.min.name Lib.Math.min.code) (hd : decode mi.2.1 pc = .ok (.invokestatic idx, 3)) (hs : Nat.ble (catS st) 8 = true) (hp : pc + 3 = pc') (k : WM (d + 1) X Y b mi pc' lv (vI (if y < x then y else x) :: st) σ res) : WM (d + 1) X Y b mi pc lv (vI y :: vI x :: st) σ res := by
  subst hp
  intro ok ad H locs ls cells slots hD
  have hs' := Nat.le_of_ble_eq_true hs
  refine va_mmin ok.1 ok.2.1 (by rw [ok.2.2.2.1]; exact hD.lv.1.symm) ok.own (ok.hts _ hw.1) (ok.hts _ hw.2.1) (ok.hts _ hw.2.2.1) (ok.hts _ hw.2.2.2) (by have hlc := ok.2.2.2.2.2.2.2.1; omega) ?_ (dyn_room hD).1 (dyn_room hD).2 hd (k ok ad H locs ls cells slots (hD.stk (hc_ trivial (ht1 (ht1 hD.hst)))))
  have e := catS_eq (ad := ad) st
  have hlc := ok.2.2.2.2.2.2.2.2
  show ((st.map (cv ad)).map fun v => v.category).sum + 13 ≤ _
  omega
theorem Rel.cell {w : WX} {ad : Nat → Nat → Nat} {σ σ' : SS} {H H' : Heap} {r i : Nat} (h : Rel w ad σ H) (hg : gal σ r i) (h2 : σ'.2 = σ.2) (hs : ∀ r' i', ¬ (r' = r ∧ i' = i) → σ'.1 r' i' = σ.1 r' i') (hz : H'.size = H.size) (ho : ∀ q, q ≠ ad r i → H'[q]? = H[q]?) (hc : cellOk w ad σ' r i H') : Rel w ad σ' H' := by
  have hgal : ∀ r i, gal σ' r i = gal σ r i := fun r i => by unfold gal; rw [h2]
  have hb := (h.2.2.1 r i hg).1
  refine ⟨by rw [hz]; exact h.1, fun q hq => by rw [ho q (by omega)]; exact h.2.1 q hq, fun r' i' hg' => ?_, fun r i r' i' g1 g2 => h.2.2.2.1 r i r' i' (hgal r i ▸ g1) (hgal r' i' ▸ g2), h.2.2.2.2⟩
  rw [hgal] at hg'
  by_cases he : r' = r ∧ i' = i
  · obtain ⟨rfl, rfl⟩ := he
    exact ⟨hb, hc⟩
  · refine ⟨(h.2.2.1 r' i' hg').1, ?_⟩
    have hne : ad r' i' ≠ ad r i := fun e => he (h.2.2.2.1 r' i' r i hg' hg e)
    have hc' := (h.2.2.1 r' i' hg').2
    have hv : ∀ k', view σ' r' i' k' = view σ r' i' k' := fun k' => by unfold view; rw [hs r' i' he, h2]
    unfold cellOk at hc' ⊢
    simp only [hv]
    split
    · rename_i hr
      rw [hr] at hc'
      exact t_OB.kept hc' (ho _ hne)
    · rename_i hr
      rw [hr] at hc'
      rw [ho _ hne]
      exact hc'
    · trivial
def CY (own : String) (idx : Nat) : Prop := Cond.methodLink own idx arraycopyName ∈ mtbl ∧ Cond.native arraycopyName ∈ mtbl ∧ Cond.static arraycopyName ∈ mtbl ∧ Cond.initialized "java/lang/System" ∈ mtbl
theorem r_copy {idx r0 i0 r1 i1 n0 n1 : Nat} {sp dp n : Int32} {A : Option α} (hw : CY mi.1.cls idx) (hd : decode mi.2.1 pc = .ok (.invokestatic idx, 3)) (hrg0 : rg r0 = some (.inr 0, n0)) (hrg1 : rg r1 = some (.inr 0, n1)) (hv0 : ∀ (σ : SS) k, view σ r0 i0 k = vI (σ.1 r0 i0 k)) (hv1 : ∀ (σ : SS) k, view σ r1 i1 k = vI (σ.1 r1 i1 k)) (hs : Nat.ble (catS st) 8 = true) (hp : pc + 3 = pc') (h : chk (¬ sp < 0 ∧ ¬ dp < 0 ∧ ¬ n < 0 ∧ ix sp + ix n ≤ n0 ∧ ix dp + ix n ≤ n1) A = some rr) (k : A = some rr → WM (d + 1) X Y b mi pc' lv st (cpy σ r0 i0 (ix sp) r1 i1 (ix dp) (ix n)) res) : WM (d + 1) X Y b mi pc lv (vI n :: vI dp :: vR r1 i1 :: vI sp :: vR r0 i0 :: st) σ res := by
  subst hp
  obtain ⟨⟨h1, h2, h3, h4, h5⟩, h⟩ := chk_t h
  intro ok ad H locs ls cells slots hD
  have hs' := Nat.le_of_ble_eq_true hs
  have hg1 : gal σ r1 i1 := gal_of (hh1 (ht1 (ht1 hD.hst))) hrg1
  have hg0 : gal σ r0 i0 := gal_of (hh1 (ht1 (ht1 (ht1 (ht1 hD.hst))))) hrg0
  have hc1 := (hD.1.2.2.1 r1 i1 hg1).2
  unfold cellOk at hc1
  rw [hrg1] at hc1
  have hc0 := (hD.1.2.2.1 r0 i0 hg0).2
  unfold cellOk at hc0
  rw [hrg0] at hc0
  have e1 : (fun j => cv ad (view σ r1 i1 j)) = (fun j => Value.int (σ.1 r1 i1 j)) := funext fun j => by rw [hv1]; rfl
  have e0 : (fun j => cv ad (view σ r0 i0 j)) = (fun j => Value.int (σ.1 r0 i0 j)) := funext fun j => by rw [hv0]; rfl
  simp only [e1] at hc1
  simp only [e0] at hc0
  have nn : ∀ z : Int32, ¬ z < 0 → z.toInt = (z.toNatClampNeg : Int) := by
    intro z hz
    have hz0 : (0 : Int) ≤ z.toInt := by
      have := Int32.not_lt.mp hz
      simpa using Int32.le_iff_toInt_le.mp this
    show z.toInt = ((z.toInt.toNat : Nat) : Int)
    omega
  have h4' : sp.toNatClampNeg + n.toNatClampNeg ≤ n0 := h4
  have h5' : dp.toNatClampNeg + n.toNatClampNeg ≤ n1 := h5
  have hA := (ok.env.2.2.1 0 (by decide)).1
  intro T hT Xs
  obtain ⟨-, k0, hk0, cm0, hkk0⟩ := hA n0 (fun j => .int (σ.1 r0 i0 j))
  obtain ⟨-, k1, hk1, cm1, hkk1⟩ := hA n1 (fun j => .int (σ.1 r1 i1 j))
  obtain ⟨vm', X', step⟩ := Xs.arraycopy ok.1 ok.own (ok.hts _ hw.1) (ok.hts _ hw.2.1) (ok.hts _ hw.2.2.1) (ok.hts _ hw.2.2.2) (src := ad r0 i0) (dst := ad r1 i1) (cs := arrV (Y.1.2.1 0) n0 (fun j => .int (σ.1 r0 i0 j))) (cd := arrV (Y.1.2.1 0) n1 (fun j => .int (σ.1 r1 i1 j))) (srcPos := sp) (destPos := dp) (n := n) (by rw [hT]; exact hc0) (by rw [hT]; exact hc1)
    (fun _ h => by cases h) (fun _ h => by cases h) (fun h => by cases h) (fun h => by cases h) hk0 hk1 hkk0 hkk1 (by simp [refKind, aty]) h1 h2 h3
    (by rw [nn sp h1, nn n h3, arrV_size]; omega)
    (by rw [nn dp h2, nn n h3, arrV_size]; omega)
    (fun vm₁ _ i hi => by
      have e : (arrV (Y.1.2.1 0) n0 (fun j => .int (σ.1 r0 i0 j))).slots.getD (sp.toNatClampNeg + i) .null = .int (σ.1 r0 i0 (sp.toNatClampNeg + i)) := by
        rw [Array.getD_eq_getD_getElem?, arrV_read _ _ (by omega)]
        rfl
      refine ⟨?_, ?_⟩
      · rw [e]
        rfl
      · rw [e]
        exact trivial)
    (g := F0 X.2.2.2.2.2.1 pc ls ((vI n :: vI dp :: vR r1 i1 :: vI sp :: vR r0 i0 :: st).map (cv ad))) rfl (by rw [ok.2.2.2.1]; exact hD.lv.1) (rest := st.map (cv ad)) rfl (by rw [ok.2.1]; exact hd) (by have hlc := ok.2.2.2.2.2.2.2.1; omega) (by
      have e := catS_eq (ad := ad) st
      have hlc := ok.2.2.2.2.2.2.2.2
      show 2 * 0 + _ + (nativeFrameWords "java/lang/System" "arraycopy" 5 + 11) ≤ _
      have : nativeFrameWords "java/lang/System" "arraycopy" 5 ≤ 20 := by decide +kernel
      omega)
  have ec : copied (arrV (Y.1.2.1 0) n0 (fun j => .int (σ.1 r0 i0 j))) (arrV (Y.1.2.1 0) n1 (fun j => .int (σ.1 r1 i1 j))) sp dp n = arrV (Y.1.2.1 0) n1 (fun j => .int (va_cpy (σ.1 r0 i0) (σ.1 r1 i1) sp.toNatClampNeg dp.toNatClampNeg n.toNatClampNeg j)) := va_copied (fun z => .int z) _ _ _ _ h4'
  rw [ec] at X' step
  have hl : ad r1 i1 < H.size := (Array.getElem?_eq_some_iff.mp hc1).1
  have oq : ∀ q : Nat, q ≠ ad r1 i1 → (H.setIfInBounds (ad r1 i1) (arrV (Y.1.2.1 0) n1 (fun j => .int (va_cpy (σ.1 r0 i0) (σ.1 r1 i1) sp.toNatClampNeg dp.toNatClampNeg n.toNatClampNeg j))))[q]? = H[q]? := fun q hq => by simp [Array.getElem?_setIfInBounds, Ne.symm hq]
  have hRel : Rel Y.1 ad (cpy σ r0 i0 (ix sp) r1 i1 (ix dp) (ix n)) (H.setIfInBounds (ad r1 i1) (arrV (Y.1.2.1 0) n1 (fun j => .int (va_cpy (σ.1 r0 i0) (σ.1 r1 i1) sp.toNatClampNeg dp.toNatClampNeg n.toNatClampNeg j)))) := by
    refine Rel.cell hD.1 hg1 rfl (fun r' i' hne => ?_) (by simp) oq ?_
    · funext k'
      exact if_neg hne
    · unfold cellOk
      rw [hrg1]
      show (H.setIfInBounds (ad r1 i1) _)[ad r1 i1]? = some _
      have e2 : (fun j => cv ad (view (cpy σ r0 i0 (ix sp) r1 i1 (ix dp) (ix n)) r1 i1 j)) = (fun j => Value.int (va_cpy (σ.1 r0 i0) (σ.1 r1 i1) sp.toNatClampNeg dp.toNatClampNeg n.toNatClampNeg j)) := funext fun j => by
        rw [hv1]
        show Value.int _ = _
        congr 1
        exact if_pos ⟨rfl, rfl⟩
      rw [e2]
      simp [Array.getElem?_setIfInBounds, hl]
  obtain ⟨t, a1, b1⟩ := k h ok ad _ _ ls cells slots ⟨hRel, hD.2.1, fun q hq => by
      rcases List.mem_append.mp hq with h | h
      · exact hD.2.2.1 q h
      · obtain ⟨z, -, hz⟩ := List.mem_map.mp h
        rw [← hz]
        exact (hD.1.2.2.1 r1 i1 hg1).1, hD.lv, hD.hlv, ht1 (ht1 (ht1 (ht1 (ht1 hD.hst)))), hD.2.2.2.2.2.2⟩ _ (by rw [← hT]; rfl) X'
  exact ⟨t, step t a1, b1⟩
end MORE
