/-! ===== PURE: sides that lie on each other ===== -/
/-- where along a side of direction k a point lies -/
def al (k : Nat) (x y : Int) : Int := if k % 4 = 0 then y else x
def loE (R : Nat → Int) (k : Nat) : Int := min (al k (vx R k) (vy R k)) (al k (vx R (nxt k)) (vy R (nxt k)))
def hiE (R : Nat → Int) (k : Nat) : Int := max (al k (vx R k) (vy R k)) (al k (vx R (nxt k)) (vy R (nxt k)))
/-- the point of line k (v) at place a -/
def ptx (k : Nat) (v a : Int) : Int := match k with
  | 0 => v
  | 4 => -v
  | _ => a
def pty (k : Nat) (v a : Int) : Int := match k with
  | 0 => a
  | 1 => v
  | 2 => v - a
  | 3 => a - v
  | 4 => a
  | 5 => -v
  | 6 => -v - a
  | _ => v + a
theorem pt_on (v a : Int) : ∀ k, k < 8 → mz k (ptx k v a) (pty k v a) = v ∧ al k (ptx k v a) (pty k v a) = a := by
  apply all8 <;> simp (config := { decide := true }) only [mz, ptx, pty, al, if_true, if_false, and_true, true_and] <;> omega
theorem seg_in {e R : Nat → Int} (h : Fit e R) {x y : Int} : ∀ k, k < 8 → mz k x y = R k → loE R k ≤ al k x y → al k x y ≤ hiE R k → ∀ l, l < 8 → mz l x y ≤ R l := by
  have key : ∀ k, k < 8 → mz k x y = R k → loE R k ≤ al k x y → al k x y ≤ hiE R k → az k (vx R k) (vy R k) ≤ az k x y ∧ az k x y ≤ az k (vx R (nxt k)) (vy R (nxt k)) := by
    have a := of8 h.1
    simp only [ld] at a
    obtain ⟨a0, a1, a2, a3, a4, a5, a6, a7⟩ := a
    apply all8 <;> intro z1 z2 z3 <;> simp (config := { decide := true }) only [mz, loE, hiE, al, vx, vy, nxt, if_true, if_false] at z1 z2 z3 <;> simp only [az, nz, wz, vx, vy, nxt] <;> omega
  intro k hk h1 h2 h3
  have q := key k hk h1 h2 h3
  exact edge_in h.1 k hk h1 q.1 q.2
/-- how long the sides k of the one and l of the other (on one line) lie on each other -/
def ovr (A B : Nat → Int) (k l : Nat) : Int := min (hiE A k) (hiE B l) - max (loE A k) (loE B l)
def cmn (A B : Nat → Int) (k : Nat) : Int := if ld A k ≠ 0 ∧ ld B (opp k) ≠ 0 ∧ A k + B (opp k) = 0 then max 0 (ovr A B k (opp k)) else 0
theorem al_opp (x y : Int) : ∀ k, k < 8 → al (opp k) x y = al k x y := by
  apply all8 <;> rfl
theorem mz_opp (x y : Int) : ∀ k, k < 8 → mz (opp k) x y = -mz k x y := by
  apply all8 <;> simp only [mz, opp] <;> omega
/-- two points that both shapes have, on line k -/
theorem two_pts {e A e' B : Nat → Int} (hA : Fit e A) (hB : Fit e' B) {k l : Nat} (hk : k < 8) (hl : l = k ∧ A k = B k ∨ l = opp k ∧ A k + B (opp k) = 0) (ho : 0 < ovr A B k l) : ∃ x y u v, (∀ j, j < 8 → mz j x y ≤ A j) ∧ (∀ j, j < 8 → mz j x y ≤ B j) ∧ (∀ j, j < 8 → mz j u v ≤ A j) ∧ (∀ j, j < 8 → mz j u v ≤ B j) ∧ mz k x y = A k ∧ mz k u v = A k ∧ al k x y < al k u v := by
  have hl8 : l < 8 := by
    rcases hl with ⟨h, -⟩ | ⟨h, -⟩
    · omega
    · rw [h]; exact opp_lt k hk
  unfold ovr at ho
  generalize hlo : max (loE A k) (loE B l) = lo at ho
  generalize hhi : min (hiE A k) (hiE B l) = hi at ho
  have p1 := pt_on (A k) lo k hk
  have p2 := pt_on (A k) hi k hk
  have inA : ∀ a, lo ≤ a → a ≤ hi → ∀ j, j < 8 → mz j (ptx k (A k) a) (pty k (A k) a) ≤ A j := by
    intro a h1 h2
    have p := pt_on (A k) a k hk
    exact seg_in hA k hk p.1 (by rw [p.2]; omega) (by rw [p.2]; omega)
  have inB : ∀ a, lo ≤ a → a ≤ hi → ∀ j, j < 8 → mz j (ptx k (A k) a) (pty k (A k) a) ≤ B j := by
    intro a h1 h2
    have p := pt_on (A k) a k hk
    have m1 : mz l (ptx k (A k) a) (pty k (A k) a) = B l := by
      rcases hl with ⟨h, h'⟩ | ⟨h, h'⟩
      · rw [h, p.1, h']
      · rw [h, mz_opp _ _ k hk, p.1]; omega
    have m2 : al l (ptx k (A k) a) (pty k (A k) a) = a := by
      rcases hl with ⟨h, h'⟩ | ⟨h, h'⟩
      · rw [h, p.2]
      · rw [h, al_opp _ _ k hk, p.2]
    exact seg_in hB l hl8 m1 (by rw [m2]; omega) (by rw [m2]; omega)
  exact ⟨_, _, _, _, inA lo (by omega) (by omega), inB lo (by omega) (by omega), inA hi (by omega) (by omega), inB hi (by omega) (by omega), p1.1, p2.1, by rw [p1.2, p2.2]; omega⟩
/-- sides of one direction on one line: the shapes overlap -/
theorem same_ovl {e A e' B : Nat → Int} (hA : Fit e A) (hB : Fit e' B) {k : Nat} (hk : k < 8) (hl : A k = B k) (ho : 0 < ovr A B k k) : Ovl A B := by
  obtain ⟨x, y, u, v, a1, b1, a2, b2, m1, m2, lt⟩ := two_pts hA hB hk (Or.inl ⟨rfl, hl⟩) ho
  have wA := hA.2.1
  have wB := hB.2.1
  have a1 := of8 a1
  have a2 := of8 a2
  have b1 := of8 b1
  have b2 := of8 b2
  simp only [mz] at a1 a2 b1 b2
  obtain ⟨a10, a11, a12, a13, a14, a15, a16, a17⟩ := a1
  obtain ⟨a20, a21, a22, a23, a24, a25, a26, a27⟩ := a2
  obtain ⟨b10, b11, b12, b13, b14, b15, b16, b17⟩ := b1
  obtain ⟨b20, b21, b22, b23, b24, b25, b26, b27⟩ := b2
  have key : ∀ k, k < 8 → A k = B k → mz k x y = A k → mz k u v = A k → al k x y < al k u v → Ovl A B := by
    apply all8 <;> intro z1 z2 z3 z4 <;> simp (config := { decide := true }) only [mz, al, if_true, if_false] at z1 z2 z3 z4 <;> unfold Ovl <;> apply all8 <;> simp only [opp] <;> omega
  exact key k hk hl m1 m2 lt
/-- two shapes touch along one direction alone -/
theorem cmn_pos {A B : Nat → Int} {k : Nat} (h : 0 < cmn A B k) : ld A k ≠ 0 ∧ ld B (opp k) ≠ 0 ∧ A k + B (opp k) = 0 ∧ cmn A B k = ovr A B k (opp k) := by
  unfold cmn at h ⊢
  by_cases q : ld A k ≠ 0 ∧ ld B (opp k) ≠ 0 ∧ A k + B (opp k) = 0
  · rw [if_pos q] at h ⊢
    exact ⟨q.1, q.2.1, q.2.2, by omega⟩
  · rw [if_neg q] at h
    omega
theorem cmn_nn (A B : Nat → Int) (k : Nat) : 0 ≤ cmn A B k := by
  unfold cmn
  split <;> omega
theorem cmn_one {e A e' B : Nat → Int} (hA : Fit e A) (hB : Fit e' B) {k k' : Nat} (hk : k < 8) (hk' : k' < 8) (h : 0 < cmn A B k) (h' : 0 < cmn A B k') : k = k' := by
  obtain ⟨-, -, c1, c2⟩ := cmn_pos h
  obtain ⟨-, -, c3, -⟩ := cmn_pos h'
  obtain ⟨x, y, u, v, a1, b1, a2, b2, m1, m2, lt⟩ := two_pts hA hB hk (Or.inr ⟨rfl, c1⟩) (by omega)
  have wA := hA.2.1
  have wB := hB.2.1
  have q1 := a1 k' hk'
  have q2 := a2 k' hk'
  have q3 := b1 (opp k') (opp_lt k' hk')
  have q4 := b2 (opp k') (opp_lt k' hk')
  rw [mz_opp _ _ k' hk'] at q3 q4
  clear a1 a2 b1 b2 h h' c2 hA hB
  have key : ∀ k, k < 8 → ∀ k', k' < 8 → A k + B (opp k) = 0 → A k' + B (opp k') = 0 → mz k x y = A k → mz k u v = A k → al k x y < al k u v → mz k' x y ≤ A k' → mz k' u v ≤ A k' → -mz k' x y ≤ B (opp k') → -mz k' u v ≤ B (opp k') → k = k' := by
    apply all8 <;> apply all8 <;> intro z1 z2 z3 z4 z5 z6 z7 z8 z9 <;> simp (config := { decide := true }) only [mz, al, opp, if_true, if_false] at z1 z2 z3 z4 z5 z6 z7 z8 z9 ⊢ <;> omega
  exact key k hk k' hk' c1 c3 m1 m2 lt q1 q2 q3 q4
/-- and then no point lies within both -/
theorem cmn_apart {A B : Nat → Int} {k : Nat} (hk : k < 8) (h : 0 < cmn A B k) : ¬ Ovl A B := by
  intro ho
  have := ho k hk
  have := (cmn_pos h).2.2.1
  omega
