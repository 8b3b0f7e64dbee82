/-! what holds of all states of a walk -/
def zz (σ : mS) (k : Nat) : iM := zi (fun b => σ 25 (25 * k + b))
def ze (σ : mS) (k : Nat) : iM := zi (fun b => σ 26 (25 * k + b))
def lk (k : Nat) : Int := 13101 + 101 * (k : Int)
def gI (σ : mS) : Nat → Int := fun i => (σ 19 i).toInt
/-- zone and exact zone of a state are good -/
def zP (b : Int32) (l : Int) (g : Nat → Int) (z e : iM) : Prop := eI 5 l e ∧ (b = 0 → agr 4 z e) ∧ (¬ (b = 0) → zI l g z e)
/-- GREATEST covers the yard -/
def gC (σ : mS) : Prop := gB (σ 19, σ 20 0) ∧ ∀ a, a < N (σ 1 0) → (∀ p, p < N (σ 2 a) → ∀ l, l < N (σ 4 (6 * a + p)) → cLim σ a p l (σ 19, σ 20 0)) ∧ ∀ x, 36 * a ≤ x → x < 36 * a + 3 * N (σ 3 a) → cTst σ x (σ 19, σ 20 0)
/-- ways lead to places that are there -/
def WT (σ : mS) : Prop := ∀ a w, a < N (σ 1 0) → w < N (σ 3 a) → N (σ 8 (12 * a + w)) < N (σ 2 a)
def mvE (σ : mS) (v : Mv) : Prop := (v.1 < N (σ 1 0) ∧ v.2.1 < N (σ 3 v.1)) ∧ ∀ t, v.2.2 = some t → t.1 < N (σ 1 0) ∧ t.2 < N (σ 3 t.1)
theorem mvE_ok {σ : mS} (hW : WY σ) {v : Mv} (h : mvE σ v) : mOk v := by
  have hB := hW.1.2
  obtain ⟨a, w, o⟩ := v
  have h1 : a < N (σ 1 0) := h.1.1
  have h2 : w < N (σ 3 a) := h.1.2
  have hw := (hW.2.1 a (by omega)).2.2
  refine ⟨by show a < 3; omega, by show w < 12; omega, ?_⟩
  cases o with
  | none => exact trivial
  | some t =>
    have g := h.2 t rfl
    have hw2 := (hW.2.1 t.1 (by omega)).2.2
    exact ⟨by show t.1 < 3; omega, by show t.2 < 12; omega⟩
theorem mvE_cg {σ ρ : mS} (e : yq σ ρ) {v : Mv} (h : mvE ρ v) : mvE σ v := by
  unfold mvE at h ⊢
  rw [e 1 0 (by decide) (by decide), e 3 _ (by decide) (by decide)]
  refine ⟨h.1, fun t ht => ?_⟩
  rw [e 3 _ (by decide) (by decide)]
  exact h.2 t ht
theorem limL_G {σ : mS} (hW : WY σ) (hV : WV σ) (hC : gC σ) {p : Nat → Nat} (hp : ∀ a, a < N (σ 1 0) → p a < N (σ 2 a)) : ∀ o, o ∈ limL σ p → opG (gI σ) o := by
  intro o ho
  obtain ⟨a, _, ha, h1⟩ := itL_mem _ _ _ ho
  obtain ⟨l, _, hl, h2⟩ := itL_mem _ _ _ h1
  rw [List.mem_singleton.mp h2]
  have hB := hW.1.2
  have ha2 : a < N (σ 1 0) := by omega
  have hpa := hp a ha2
  have hp6 := (hW.2.1 a (by omega)).1.2
  have c := (hC.2 a ha2).1 (p a) hpa l (by omega)
  have v := hV.1 (6 * a + p a) l (by omega) (by omega)
  unfold cLim at c
  refine ⟨Or.inr rfl, ?_⟩
  show mk1 (gI σ (N (σ 5 (2 * (6 * a + p a) + l)) + 0)) (σ 6 (2 * (6 * a + p a) + l)).toInt
  unfold mk1 gI
  rw [Nat.add_zero]
  dsimp only at c
  omega
theorem tstL_G {σ : mS} (hW : WY σ) (hV : WV σ) (hC : gC σ) (hl : ¬ (σ 20 0 = 0)) {a w : Nat} (ha : a < N (σ 1 0)) (hw : w < N (σ 3 a)) : ∀ o, o ∈ tstL σ (12 * a + w) → opG (gI σ) o := by
  intro o ho
  obtain ⟨t, _, ht, h1⟩ := itL_mem _ _ _ ho
  rw [List.mem_singleton.mp h1]
  have hB := hW.1.2
  have hw12 := (hW.2.1 a (by omega)).2.2
  have hL := (hW.2.2.2.2.1 (12 * a + w) (by omega)).2.2.2
  have e1 : (3 * (12 * a + w) + t) / 3 = 12 * a + w := by omega
  have e2 : (3 * (12 * a + w) + t) % 3 = t := by omega
  have c := (hC.2 a ha).2 (3 * (12 * a + w) + t) (by omega) (by omega)
  unfold cTst at c
  rw [e1, e2] at c
  obtain ⟨c1, c2⟩ := c (by omega)
  have c3 : σ 12 (3 * (12 * a + w) + t) = 0 ∨ σ 13 (3 * (12 * a + w) + t) = 0 := c1.resolve_left hl
  have z : N (0 : Int32) = 0 := rfl
  show (N (σ 12 (3 * (12 * a + w) + t)) = 0 ∨ N (σ 13 (3 * (12 * a + w) + t)) = 0) ∧ mk1 (gI σ (N (σ 12 (3 * (12 * a + w) + t)) + N (σ 13 (3 * (12 * a + w) + t)))) (σ 14 (3 * (12 * a + w) + t)).toInt
  unfold fk at c2
  dsimp only at c2
  rcases c3 with g | g
  · rw [if_pos g] at c2
    rw [g, z, Nat.zero_add]
    exact ⟨Or.inl rfl, c2⟩
  · by_cases g1 : σ 12 (3 * (12 * a + w) + t) = 0
    · rw [if_pos g1] at c2
      rw [g1, z, Nat.zero_add]
      exact ⟨Or.inl rfl, c2⟩
    · rw [if_neg g1] at c2
      rw [g, z, Nat.add_zero]
      exact ⟨Or.inr rfl, c2⟩
theorem arL_G {σ : mS} (hW : WY σ) (hV : WV σ) (hC : gC σ) {p : Nat → Nat} (hp : ∀ a, a < N (σ 1 0) → p a < N (σ 2 a)) : ∀ o, o ∈ arL σ p → opG (gI σ) o := by
  intro o ho
  rcases List.mem_append.mp ho with h | h
  · exact limL_G hW hV hC hp o h
  · rcases List.mem_cons.mp h with h | h
    · rw [h]; exact trivial
    · exact limL_G hW hV hC hp o h
theorem mvOps_G {σ : mS} (hW : WY σ) (hV : WV σ) (hC : gC σ) (hl : ¬ (σ 20 0 = 0)) {v : Mv} (hv : mvE σ v) {p : Nat → Nat} (hp : ∀ a, a < N (σ 1 0) → p a < N (σ 2 a)) : ∀ o, o ∈ mvOps σ v p → opG (gI σ) o := by
  intro o ho
  rcases List.mem_append.mp ho with h | h
  · obtain ⟨a, w, b⟩ := v
    cases b with
    | none =>
      rcases List.mem_append.mp h with h | h
      · exact tstL_G hW hV hC hl hv.1.1 hv.1.2 o h
      · rw [List.mem_singleton.mp h]; exact trivial
    | some t =>
      have g := hv.2 t rfl
      rcases List.mem_append.mp h with h | h
      · exact tstL_G hW hV hC hl hv.1.1 hv.1.2 o h
      · rcases List.mem_append.mp h with h | h
        · exact tstL_G hW hV hC hl g.1 g.2 o h
        · rw [List.mem_singleton.mp h]; exact trivial
  · exact arL_G hW hV hC hp o h
theorem gRun_sub {L : List Op} : ∀ {M : iM}, gRun 5 L M → gRun 4 L M := by
  induction L with
  | nil => intro M _; exact trivial
  | cons o L ih => intro M h; exact ⟨zgd_sub h.1 (by omega), fun N hN => ih (h.2 N hN)⟩
theorem zI_cg {l : Int} {g : Nat → Int} {z z' e : iM} (h : agr 4 z z') (k : zI l g z e) : zI l g z' e := by
  obtain ⟨z1, z2, z3, z4, z5⟩ := k
  exact ⟨zgd_cg h z1, sInv_cg h z2, fun j hj => by rw [← h 0 j (by omega) hj]; exact z3 j hj, fun i j hi hj => by rw [← h i j hi hj]; exact z4 i j hi hj, fun v hv => z5 v ((sem_cg h).mpr hv)⟩
theorem zI_cge {l : Int} {g : Nat → Int} {z e e' : iM} (h : agr 5 e e') (k : zI l g z e) : zI l g z e' := by
  obtain ⟨z1, z2, z3, z4, z5⟩ := k
  refine ⟨z1, z2, z3, fun i j hi hj => by rw [← h i j (by omega) (by omega)]; exact z4 i j hi hj, fun v hv => ?_⟩
  obtain ⟨u, a, b⟩ := z5 v hv
  exact ⟨u, (sem_cg h).mp a, b⟩
theorem zI_mono {l k : Int} {g : Nat → Int} {z e : iM} (h : zI l g z e) (hk : l ≤ k) : zI k g z e := ⟨zgd_mono h.1 (by omega), sInv_mono h.2.1 (Rat.intCast_le_intCast.mpr hk), h.2.2⟩
theorem zP_cg {b : Int32} {l : Int} {g : Nat → Int} {z z' e e' : iM} (h : agr 4 z z') (k : agr 5 e e') (p : zP b l g z e) : zP b l g z' e' := ⟨eI_cg (by omega) k p.1, fun t i j hi hj => by rw [← h i j hi hj, ← k i j (by omega) (by omega)]; exact p.2.1 t i j hi hj, fun t => zI_cge k (zI_cg h (p.2.2 t))⟩
theorem zP_mono {b : Int32} {l k : Int} {g : Nat → Int} {z e : iM} (p : zP b l g z e) (hk : l ≤ k) : zP b k g z e := ⟨eI_mono p.1 hk, p.2.1, fun t => zI_mono (p.2.2 t) hk⟩
/-- a run of valid operations from a good pair: both go alike, and stay good -/
theorem zP_run {b : Int32} {l : Int} {g : Nat → Int} (hg : ∀ i, i < 4 → 0 ≤ g i ∧ g i ≤ 100) {L : List Op} (hV : ∀ o, o ∈ L → opV o) (hG : ¬ (b = 0) → ∀ o, o ∈ L → opG g o) (hl : 100 ≤ l) (hl2 : l + np L ≤ 40000) {z e : iM} (h : zP b l g z e) : gRun 4 L z ∧ gRun 5 L e ∧ ∀ Nz, runM L z = some Nz → ∃ E, runM L e = some E ∧ zP b (l + np L) g Nz E := by
  have hr := eI_run (m := 5) (by omega) L hV hl hl2 h.1
  by_cases hb : b = 0
  · have ag := h.2.1 hb
    refine ⟨gRun_cg (by omega) hV ag.symm (gRun_sub hr.1), hr.1, fun Nz hN => ?_⟩
    rcases runM_cg (m := 4) (by omega) L hV ag with ⟨k1, _⟩ | ⟨M', N', k1, k2, k3⟩
    · rw [k1] at hN; cases hN
    · rw [k1] at hN
      cases hN
      exact ⟨N', k2, hr.2 N' k2, fun _ => k3, fun t => absurd hb t⟩
  · have hp := pair_run hg L hV (hG hb) hl hl2 h.1 (h.2.2 hb)
    refine ⟨hp.1, hr.1, fun Nz hN => ?_⟩
    obtain ⟨E, a, c, d⟩ := hp.2 Nz hN
    exact ⟨E, a, c, fun t => absurd t hb, fun _ => d⟩
/-- the reference's zones after a run, with LET GO behind it -/
def qLet (b : Int32) (g : Nat → Int32) (q : zQ) : zQ := if b = 0 then q else qlt g q
theorem ref_run {b : Int32} {l : Int} {gg : Nat → Int32} (hg : ∀ i, i < 4 → 0 ≤ (gg i).toInt ∧ (gg i).toInt ≤ 100) (hg0 : (gg 0).toInt = 0) {L : List Op} (hV : ∀ o, o ∈ L → opV o) (hG : ¬ (b = 0) → ∀ o, o ∈ L → opG (fun i => (gg i).toInt) o) (hl : 13000 ≤ l) (hl2 : l + np L ≤ 40000) {z e : iM} (h : zP b l (fun i => (gg i).toInt) z e) {Z W : Nat → Int32} (hz : agr 4 (zi Z) z) (he : agr 5 (zi W) e) : (runM L z = none ∧ (runQ 4 L (Z, 0)).2 = 1 ∧ (qLet b gg (runQ 4 L (Z, 0))).2 = 1) ∨ ∃ Nz E, runM L z = some Nz ∧ runM L e = some E ∧ (runQ 4 L (Z, 0)).2 = 0 ∧ agr 4 (zi (runQ 4 L (Z, 0)).1) Nz ∧ (qLet b gg (runQ 4 L (Z, 0))).2 = 0 ∧ (runQ 5 L (W, 0)).2 = 0 ∧ agr 5 (zi (runQ 5 L (W, 0)).1) E ∧ zP b (l + np L) (fun i => (gg i).toInt) Nz E ∧ zP b (l + np L) (fun i => (gg i).toInt) (zi (qLet b gg (runQ 4 L (Z, 0))).1) E := by
  have nn := np_nn L
  obtain ⟨r1, r2, r3⟩ := zP_run hg hV hG (by omega) hl2 h
  rcases runQ_is (m := 4) (by omega) (by omega) L hV (q := (Z, 0)) rfl r1 hz with ⟨k1, k2⟩ | ⟨Nz, k1, k2, k3⟩
  · left
    refine ⟨k1, k2, ?_⟩
    unfold qLet qlt
    by_cases hb : b = 0
    · rw [if_pos hb]; exact k2
    · rw [if_neg hb, if_neg (by rw [k2]; decide)]
      exact k2
  · right
    obtain ⟨E, e1, e2⟩ := r3 Nz k1
    rcases runQ_is (m := 5) (by omega) (by omega) L hV (q := (W, 0)) rfl r2 he with ⟨t, _⟩ | ⟨E', f1, f2, f3⟩
    · rw [e1] at t; cases t
    · rw [e1] at f1
      cases f1
      refine ⟨Nz, E, k1, e1, k2, k3, ?_, f2, f3, e2, ?_⟩
      · unfold qLet qlt
        by_cases hb : b = 0
        · rw [if_pos hb]; exact k2
        · have key := (zI_let (by omega) hl2 hg hg0 e2.1 (zI_cg k3.symm (e2.2.2 hb))).2.1
          rw [if_neg hb, if_pos k2, k2]
          unfold qcl
          dsimp only
          exact key
      · unfold qLet qlt
        by_cases hb : b = 0
        · rw [if_pos hb]
          exact zP_cg k3.symm (fun _ _ _ _ => rfl) e2
        · rw [if_neg hb, if_pos k2]
          exact ⟨e2.1, fun t => absurd t hb, fun _ => (zI_let (by omega) hl2 hg hg0 e2.1 (zI_cg k3.symm (e2.2.2 hb))).1⟩
