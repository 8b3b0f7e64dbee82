/-! a move's zones: the class's are the reference's; covered or not -/
def lgq (b : Int32) (g : Nat → Int32) (q : zQ) : zQ := if b = 0 then q else clg g q.1
theorem lnz_cg {g g' : Nat → Int32} (h : ∀ b, b < 4 → g b = g' b) (S : lS) : lnz 4 g S = lnz 4 g' S := by
  unfold lnz
  refine it_cg (hi := 4) (fun i S hi => ?_) 4 0 S (by omega)
  unfold ln2
  refine it_cg (hi := 4) (fun j S hj => ?_) 4 0 S (by omega)
  unfold ln1
  rw [h i hi, h j hj]
theorem clg_cg {g g' : Nat → Int32} (h : ∀ b, b < 4 → g b = g' b) (f : Nat → Int32) : clg g f = clg g' f := by
  unfold clg
  rw [lnz_cg h]
theorem agr.tr {m : Nat} {L M P : iM} (h : agr m L M) (g : agr m M P) : agr m L P := fun i j hi hj => (h i j hi hj).trans (g i j hi hj)
section MZ
variable {σ : mS} {k : Nat} {v : Mv}
theorem mv_gRun (hA : AI σ) (hk : k < N (σ 22 0)) (hv : mvE σ v) : (∀ o, o ∈ mvOps σ v (mPX σ k v) → opV o) ∧ gRun 4 (mvOps σ v (mPX σ k v)) (zz σ k) ∧ gRun 5 (mvOps σ v (mPX σ k v)) (ze σ k) := by
  have hR := hA.1
  have hs := hR.2.1.2
  have hk2 : k < 200 := by omega
  have ok := mvE_ok hR.1 hv
  have hV := mvOps_V hR.1 hA.2.1 ok (p := mPX σ k v) (fun a ha => mPX_lt hR hk ok ha)
  have hG : ¬ (σ 20 0 = 0) → ∀ o, o ∈ mvOps σ v (mPX σ k v) → opG (fun i => (σ 19 i).toInt) o := fun hl => mvOps_G hR.1 hA.2.1 hA.2.2.2.1 hl hv (fun a ha => mPX_in hA hk hv ha)
  have hgB := hA.2.2.2.1.1
  have hP := hA.2.2.2.2.2 k hk
  have l1 := lk_le hk2
  have np1 := np_mvOps σ v (mPX σ k v)
  have zr := zP_run (g := fun i => (σ 19 i).toInt) hgB.1 hV hG (by omega) (by omega) hP
  exact ⟨hV, zr.1, zr.2.1⟩
theorem zone_next (hA : AI σ) (hk : k < N (σ 22 0)) (hv : mvE σ v) {q0 : zQ} (h0 : q0.2 = 0) (ha : agr 4 (ci 4 q0.1) (zz σ k)) {g : Nat → Int32} {b8 : Int32} (h8 : b8 = σ 20 0) (hg : ¬ σ 20 0 = 0 → ∀ b, b < 4 → g b = σ 19 b) (Z0 : Nat → Int32) : ((qB σ k (mPX σ k v) (mGZ σ v) Z0).2 = 1 ∧ (crunQ 4 (mvOps σ v (mPX σ k v)) q0).2 = 1) ∨ ((qB σ k (mPX σ k v) (mGZ σ v) Z0).2 = 0 ∧ (crunQ 4 (mvOps σ v (mPX σ k v)) q0).2 = 0 ∧ (lgq b8 g (crunQ 4 (mvOps σ v (mPX σ k v)) q0)).2 = 0 ∧ cagr 4 (lgq b8 g (crunQ 4 (mvOps σ v (mPX σ k v)) q0)).1 (qB σ k (mPX σ k v) (mGZ σ v) Z0).1) := by
  obtain ⟨hV, g4, g5⟩ := mv_gRun hA hk hv
  have hs := hA.1.2.1.2
  have l1 := lk_le (show k < 200 by omega)
  have cq := crunQ_is (n := 4) (by omega) (by omega) _ hV h0 g4 ha
  rcases mv_out hA hk hv Z0 Z0 with ⟨m1, m2⟩ | ⟨Nz, E, E1, m1, m2, m3, m4, m5, m6, m7, m8, m9, m10, m11, m12⟩
  · rcases cq with ⟨c1, c2⟩ | ⟨N', c1, c2, c3⟩
    · exact Or.inl ⟨m2, c2⟩
    · rw [m1] at c1; cases c1
  · rcases cq with ⟨c1, c2⟩ | ⟨N', c1, c2, c3⟩
    · rw [m1] at c1; cases c1
    · rw [m1] at c1
      cases c1
      right
      generalize crunQ 4 (mvOps σ v (mPX σ k v)) q0 = qf at c2 c3 ⊢
      unfold lgq
      by_cases hb : σ 20 0 = 0
      · rw [if_pos (h8.trans hb)]
        exact ⟨m4, c2, c2, cagr_of (c3.tr (m5 hb).symm)⟩
      · rw [if_neg (fun t => hb (h8.symm.trans t)), clg_cg (hg hb)]
        obtain ⟨Z, z1, z2⟩ := m6 hb
        have hgB := hA.2.2.2.1.1
        have zi1 : zI (lk k + 101) (fun i => (σ 19 i).toInt) (zi Z) E := zI_cg z1.symm (m9.2.2 hb)
        have cl := clg_is (by omega) (by omega) hgB.1 hgB.2 m9.1 zi1 (f := qf.1) (cagr_of (c3.tr z1.symm))
        rw [z2]
        exact ⟨m4, c2, cl.1, cl.2⟩
theorem zone_exact (hA : AI σ) (hk : k < N (σ 22 0)) (hv : mvE σ v) {qe : zQ} (h0 : qe.2 = 0) (ha : agr 5 (ci 5 qe.1) (ze σ k)) (Z0 Z1 : Nat → Int32) (hq : (qB σ k (mPX σ k v) (mGZ σ v) Z0).2 = 0) : (crunQ 5 (mvOps σ v (mPX σ k v)) qe).2 = 0 ∧ cagr 5 (crunQ 5 (mvOps σ v (mPX σ k v)) qe).1 (qE σ k (mPX σ k v) (mGZ σ v) Z1).1 ∧ (crunQ 5 (mvA σ v (mPX σ k v)) qe).1 4 = (ql σ 5 (mPX σ k v) (mGZ σ v 5 (szq (σ 26) k Z1, 0))).1 4 := by
  obtain ⟨hV, g4, g5⟩ := mv_gRun hA hk hv
  have hV1 : ∀ o, o ∈ mvA σ v (mPX σ k v) → opV o := fun o ho => hV o (by rw [mvOps_A]; exact List.mem_append_left _ ho)
  have g1 : gRun 5 (mvA σ v (mPX σ k v)) (ze σ k) := by
    have := g5
    rw [mvOps_A] at this
    exact gRun_app this
  rcases mv_out hA hk hv Z0 Z1 with ⟨m1, m2⟩ | ⟨Nz, E, E1, m1, m2, m3, m4, m5, m6, m7, m8, m9, m10, m11, m12⟩
  · rw [m2] at hq; cases hq
  · rcases crunQ_is (n := 5) (by omega) (by omega) _ hV h0 g5 ha with ⟨c1, c2⟩ | ⟨N', c1, c2, c3⟩
    · rw [m2] at c1; cases c1
    · rw [m2] at c1
      cases c1
      refine ⟨c2, cagr_of (c3.tr m7.symm), ?_⟩
      rcases crunQ_is (n := 5) (by omega) (by omega) _ hV1 h0 g1 ha with ⟨d1, d2⟩ | ⟨N', d1, d2, d3⟩
      · rw [m3] at d1; cases d1
      · rw [m3] at d1
        cases d1
        have := d3 0 4 (by omega) (by omega)
        exact Int32.toInt.inj (this.trans m8.symm)
end MZ
theorem cli_is (f f2 : Nat → Int32) : ∀ d i, (cli f f2 d i = 1 ∧ ∀ j, i ≤ j → j < i + d → f j ≤ f2 j) ∨ (cli f f2 d i = 0 ∧ ¬ ∀ j, i ≤ j → j < i + d → f j ≤ f2 j) := by
  intro d
  induction d with
  | zero => intro i; exact Or.inl ⟨rfl, fun j _ _ => by omega⟩
  | succ d ih =>
    intro i
    show ((if f i ≤ f2 i then cli f f2 d (i + 1) else 0) = 1 ∧ _) ∨ ((if f i ≤ f2 i then cli f f2 d (i + 1) else 0) = 0 ∧ _)
    by_cases g : f i ≤ f2 i
    · rw [if_pos g]
      rcases ih (i + 1) with a | a
      · refine Or.inl ⟨a.1, fun j h1 h2 => ?_⟩
        by_cases e : j = i
        · rw [e]; exact g
        · exact a.2 j (by omega) (by omega)
      · exact Or.inr ⟨a.1, fun t => a.2 (fun j h1 h2 => t j (by omega) (by omega))⟩
    · rw [if_neg g]
      exact Or.inr ⟨rfl, fun t => g (t i (by omega) (by omega))⟩
def cvd (κ : kS) (j : Nat) : Prop := (∀ i, i < 3 → κ 20 j i = κ 5 0 i) ∧ ∀ i, i < 16 → κ 7 0 i ≤ κ 7 (2 * j + 2) i
theorem ccv_is (κ : kS) : ∀ d k, (ccv κ d k = 1 ∧ ∃ j, k ≤ j ∧ j < k + d ∧ cvd κ j) ∨ (ccv κ d k = 0 ∧ ¬ ∃ j, k ≤ j ∧ j < k + d ∧ cvd κ j) := by
  intro d
  induction d with
  | zero => intro k; exact Or.inr ⟨rfl, fun ⟨j, h1, h2, _⟩ => by omega⟩
  | succ d ih =>
    intro k
    have rest : ¬ cvd κ k → (ccv κ d (k + 1) = 1 ∧ ∃ j, k ≤ j ∧ j < k + (d + 1) ∧ cvd κ j) ∨ (ccv κ d (k + 1) = 0 ∧ ¬ ∃ j, k ≤ j ∧ j < k + (d + 1) ∧ cvd κ j) := fun hn => by
      rcases ih (k + 1) with ⟨a, j, b, c, e⟩ | ⟨a, b⟩
      · exact Or.inl ⟨a, j, by omega, by omega, e⟩
      · refine Or.inr ⟨a, fun ⟨j, c, e, f⟩ => ?_⟩
        by_cases g : j = k
        · rw [g] at f; exact hn f
        · exact b ⟨j, by omega, by omega, f⟩
    show ((if csa κ k 3 0 = 0 then ccv κ d (k + 1) else if cli (κ 7 0) (κ 7 (2 * k + 2)) 16 0 = 0 then ccv κ d (k + 1) else 1) = 1 ∧ _) ∨ ((if csa κ k 3 0 = 0 then ccv κ d (k + 1) else if cli (κ 7 0) (κ 7 (2 * k + 2)) 16 0 = 0 then ccv κ d (k + 1) else 1) = 0 ∧ _)
    rcases csa_is κ k 3 0 with ⟨a, b⟩ | ⟨a, b⟩
    · rw [a, if_neg (by decide)]
      rcases cli_is (κ 7 0) (κ 7 (2 * k + 2)) 16 0 with ⟨c, e⟩ | ⟨c, e⟩
      · rw [c, if_neg (by decide)]
        exact Or.inl ⟨rfl, k, by omega, by omega, fun i hi => b i (by omega) (by omega), fun i hi => e i (by omega) (by omega)⟩
      · rw [c, if_pos rfl]
        exact rest (fun t => e (fun i _ h2 => t.2 i (by omega)))
    · rw [a, if_pos rfl]
      exact rest (fun t => b (fun i _ h2 => t.1 i (by omega)))
theorem lies_sZ {σ : mS} {f f2 Z : Nat → Int32} {j : Nat} (h : cagr 4 f Z) (h2 : cagr 4 f2 (fun b => σ 25 (25 * j + b))) : (∀ i, i < 16 → f i ≤ f2 i) ↔ sZ σ Z j := by
  constructor
  · intro t i hi h4
    have e1 := h (i / 5) (i % 5) (by omega) (by omega)
    have e2 := h2 (i / 5) (i % 5) (by omega) (by omega)
    have t1 := t (i / 5 * 4 + i % 5) (by omega)
    rw [e1, e2] at t1
    dsimp only at t1
    rw [show 5 * (i / 5) + i % 5 = i by omega] at t1
    exact t1
  · intro t i hi
    have e1 := h (i / 4) (i % 4) (by omega) (by omega)
    have e2 := h2 (i / 4) (i % 4) (by omega) (by omega)
    rw [show i / 4 * 4 + i % 4 = i by omega] at e1 e2
    rw [e1, e2]
    exact t (5 * (i / 4) + i % 4) (by omega) (by omega)
