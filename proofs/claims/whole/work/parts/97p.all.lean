/-! ===== PURE: ALL: what ties both sides between two calls ===== -/
def PE (σ : SS) : Prop := ∃ n R th og ex ba an m wh it W wv, PH σ n R th og ex ba ∧ AS σ an m wh it W wv ∧ AE n ex an m wh it
def RE (σ : SS) : Prop := (∃ n fa fb fj fp on, RU σ n fa fb fj fp on) ∧ RP σ
def TIE (σ : SS) : Prop := (MTb σ ∧ MT2 σ) ∧ RE σ ∧ PE σ
def ST {β : Type} (σ : SS) (F7 F8 : SS → Option (β × SS)) : Prop := ∃ r σ1 σ2, F7 σ = some (r, σ1) ∧ F8 σ1 = some (r, σ2) ∧ TIE σ2
def agr (P : Nat → Nat → Nat → Prop) (σ τ : SS) : Prop := ∀ r i k, ¬ P r i k → τ.1 r i k = σ.1 r i k
theorem tb_agr {P : Nat → Nat → Nat → Prop} {σ τ : SS} (h : MTb σ ∧ MT2 σ) (f : agr P σ τ) (hp : ∀ r i k, 40 ≤ r → r < 46 → ¬ P r i k) : MTb τ ∧ MT2 τ := by
  refine ⟨h.1.eq (fun r k h1 h2 => f r 0 k (hp r 0 k h1 (by omega))), fun k hk => ?_⟩
  rw [f 43 0 k (hp _ _ _ (by decide) (by decide)), f 44 0 k (hp _ _ _ (by decide) (by decide)), f 45 0 k (hp _ _ _ (by decide) (by decide))]
  exact h.2 k hk
theorem RE.agr {P : Nat → Nat → Nat → Prop} {σ τ : SS} (h : RE σ) (f : agr P σ τ) (hp : ∀ r i k, PR r k → ¬ P r i k) : RE τ := by
  obtain ⟨⟨n, fa, fb, fj, fp, on, hU⟩, p, p1, p2⟩ := h
  have f' : fri P σ (τ.1, σ.2) := ⟨f, rfl⟩
  have u : RU (τ.1, σ.2) n fa fb fj fp on := hU.fr f' hp
  exact ⟨⟨n, fa, fb, fj, fp, on, u⟩, p, p1, by rw [f 7 0 5 (hp _ _ _ (by unfold PR; omega))]; exact p2⟩
theorem ph_agr {P : Nat → Nat → Nat → Prop} {σ τ : SS} {n : Nat} {R : Nat → Nat → Int} {th og : Nat → Nat} {ex : Nat → Bool} {ba : Nat → Int} (h : PH σ n R th og ex ba) (f : agr P σ τ) (e : τ.2.1 = σ.2.1) (hp : ∀ r i k, PPc r i k ∨ PH7 r i k ∨ PH8 r i k → ¬ P r i k) : PH τ n R th og ex ba := by
  obtain ⟨hP, m, la, so, pc, nb, Ro, h7, h8, hv⟩ := h
  have f' : fri P σ (τ.1, σ.2) := ⟨f, rfl⟩
  have u : PC (τ.1, σ.2) n R th og ex ba := hP.fr f' (fun r i k z => hp r i k (Or.inl z))
  refine ⟨⟨by rw [e]; exact hP.1, u.2⟩, m, la, so, pc, nb, Ro, h7.fr f (fun r k z => hp r 0 k (Or.inr (Or.inl z))), h8.fr f (fun r k z => hp r 0 k (Or.inr (Or.inr z))), hv⟩
/-- scratch changes nothing that ties -/
theorem TIE.sc {σ τ : SS} (h : TIE σ) (f : fri PSc σ τ) : TIE τ := by
  obtain ⟨hM, hR, n, R, th, og, ex, ba, an, m, wh, it, W, wv, hP, hA, hE⟩ := h
  refine ⟨tb_agr hM f.1 (fun r i k h1 h2 => by unfold PSc PN PT PG PO PTw PW; omega), hR.agr f.1 (fun r i k z => by unfold PR at z; unfold PSc PN PT PG PO PTw PW; omega), n, R, th, og, ex, ba, an, m, wh, it, W, wv, ?_, hA.fr f.p PSc_as, hE⟩
  exact ph_agr hP f.1 (by rw [f.2]) (fun r i k z => by unfold PPc PH7 PH8 at z; unfold PSc PN PT PG PO PTw PW; omega)
theorem ST.so {β : Type} {σ : SS} {F7 F8 : SS → Option (β × SS)} (h : TIE σ) (q : SO σ F7 F8) : ST σ F7 F8 := by
  obtain ⟨r, σ1, σ2, a, b, c⟩ := q
  exact ⟨r, σ1, σ2, a, b, h.sc c⟩
theorem ST.ro {σ : SS} {F7 F8 : SS → Option (Int32 × SS)} (h : TIE σ) (q : RO PN σ F7 F8) : ST σ F7 F8 := by
  obtain ⟨r, σ2, a, b, c⟩ := q
  exact ⟨r, σ, σ2, a, b, h.sc (c.mono (fun _ _ _ => PN_Sc))⟩
theorem ST.ro64 {σ : SS} {F7 F8 : SS → Option (Int64 × SS)} (h : TIE σ) (q : RO64 PN σ F7 F8) : ST σ F7 F8 := by
  obtain ⟨r, σ2, a, b, c⟩ := q
  exact ⟨r, σ, σ2, a, b, h.sc (c.mono (fun _ _ _ => PN_Sc))⟩
theorem ST.id {σ : SS} {F7 F8 : SS → Option (Int32 × SS)} (h : TIE σ) (q : ∃ r, F7 σ = some (r, σ) ∧ F8 σ = some (r, σ)) : ST σ F7 F8 := by
  obtain ⟨r, a, b⟩ := q
  exact ⟨r, σ, σ, a, b, h⟩
theorem ST.mu {σ : SS} {F7 F8 : SS → Option (Int32 × SS)} (h : TIE σ) (q : ∀ n R th og ex ba an m, PH σ n R th og ex ba → IT σ an m → MU σ (fun p => held σ an m (nI p) = true) n ex F7 F8) : ST σ F7 F8 := by
  obtain ⟨hM, hR, n, R, th, og, ex, ba, an, m, wh, it, W, wv, hP, hA, hE⟩ := h
  obtain ⟨r, σ1, σ2, a, b, f, n', R', th', og', ex', ba', hP', hk⟩ := q n R th og ex ba an m hP hA.1
  refine ⟨r, σ1, σ2, a, b, tb_agr hM f.1 (fun r i k h1 h2 => by unfold PMu PPc PH7 PH8 PN PT PG PO PTw; omega), hR.agr f.1 (fun r i k z => by unfold PR at z; unfold PMu PPc PH7 PH8 PN PT PG PO PTw; omega), n', R', th', og', ex', ba', an, m, wh, it, W, wv, hP', hA.fr f PMu_as, fun a ha i hi hw => ?_⟩
  obtain ⟨e1, e2⟩ := hE a ha i hi hw
  exact hk _ e1 e2 (as_held hA ha hi hw)
theorem st_put {σ : SS} (h : TIE σ) (v1 v2 v3 : Int32) (hv : v3 = 0 ∨ v3 = 1) : ST σ (f_X7_put v1 v2 v3) (f_X8_put v1 v2 v3) := by
  obtain ⟨hM, hR, n, R, th, og, ex, ba, an, m, wh, it, W, wv, hP, hA, hE⟩ := h
  obtain ⟨r, σ1, σ2, a, b, -, f, m', wh', it', W', wv', hA', hE'⟩ := q_put hP.1 hA hE v1 v2 v3 hv
  refine ⟨r, σ1, σ2, a, b, tb_agr hM f.1 (fun r i k h1 h2 => by unfold PPu PAs; omega), hR.agr f.1 (fun r i k z => by unfold PR at z; unfold PPu PAs; omega), n, R, th, og, ex, ba, an, m', wh', it', W', wv', ?_, hA', hE'⟩
  exact ph_agr hP f.1 (by rw [f.2]) (fun r i k z => by unfold PPc PH7 PH8 at z; unfold PPu PAs; omega)
theorem st_assembly {σ : SS} (h : TIE σ) : ST σ f_X7_assembly f_X8_assembly := by
  obtain ⟨hM, hR, n, R, th, og, ex, ba, an, m, wh, it, W, wv, hP, hA, hE⟩ := h
  obtain ⟨r, σ1, σ2, a, b, ⟨an', m', W', wv', hA', hE'⟩, e, f⟩ := q_assembly2 hA
  refine ⟨r, σ1, σ2, a, b, tb_agr hM f (fun r i k h1 h2 => by unfold PAn; omega), hR.agr f (fun r i k z => by unfold PR at z; unfold PAn; omega), n, R, th, og, ex, ba, an', m', wh, it, W', wv', ?_, hA', hE' n ex hE⟩
  exact ph_agr hP f e (fun r i k z => by unfold PPc PH7 PH8 at z; unfold PAn; omega)
theorem rl_tie {σ τ : SS} (h : TIE σ) (hr : RE τ) (f : fr PR σ τ) : TIE τ := by
  obtain ⟨hM, hR, n, R, th, og, ex, ba, an, m, wh, it, W, wv, hP, hA, hE⟩ := h
  have g : fri (fun r _ k => PR r k) σ τ := f
  refine ⟨tb_agr hM g.1 (fun r i k h1 h2 => by unfold PR; omega), hr, n, R, th, og, ex, ba, an, m, wh, it, W, wv, ?_, hA.fr g.p (fun r i k z => by unfold PAs at z; unfold PR; omega), hE⟩
  exact ph_agr hP g.1 (by rw [g.2]) (fun r i k z => by unfold PPc PH7 PH8 at z; unfold PR; omega)
theorem st_pack {σ : SS} (h : TIE σ) (a b : Int32) (hb : b = 0 ∨ b = 1) : ST σ (f_X7_pack a b) (f_X8_pack a b) := by
  obtain ⟨⟨n, fa, fb, fj, fp, on, hU⟩, hp⟩ := h.2.1
  obtain ⟨r, σ1, σ2, x, y, u, p, f⟩ := q_pack hU hp a b hb
  exact ⟨r, σ1, σ2, x, y, rl_tie h ⟨u, p⟩ f⟩
