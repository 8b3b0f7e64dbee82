/-! THE REFERENCE: tryWay, lookAt -/
abbrev cnd (σ : mS) (k x b v : Nat) : Prop := σ 7 (12 * b + v) = σ 24 (3 * k + b) ∧ σ 9 (12 * b + v) = -(σ 9 x)
def rowL (σ : mS) (k a w b : Nat) : Nat → Nat → List Mv
  | 0, _ => []
  | d + 1, v => (if cnd σ k (12 * a + w) b v then [(a, w, some (b, v))] else []) ++ rowL σ k a w b d (v + 1)
def takL (σ : mS) (k a w : Nat) : Nat → Nat → List Mv
  | 0, _ => []
  | d + 1, b => (if b = a then [] else rowL σ k a w b (N (σ 3 b)) 0) ++ takL σ k a w d (b + 1)
def wayL (σ : mS) (k a w : Nat) : List Mv := if σ 7 (12 * a + w) = σ 24 (3 * k + a) ∧ 0 ≤ σ 9 (12 * a + w) then (if σ 9 (12 * a + w) = 0 then [(a, w, none)] else takL σ k a w (N (σ 1 0)) 0) else []
def lkR (σ : mS) (k a : Nat) : Nat → Nat → List Mv
  | 0, _ => []
  | d + 1, w => wayL σ k a w ++ lkR σ k a d (w + 1)
def lkL (σ : mS) (k : Nat) : Nat → Nat → List Mv
  | 0, _ => []
  | d + 1, a => lkR σ k a (N (σ 3 a)) 0 ++ lkL σ k d (a + 1)
/-- the MOVES of STATE k to be tried, in order -/
def movesL (σ : mS) (k : Nat) : List Mv := lkL σ k (N (σ 1 0)) 0
theorem rowL_ok {σ : mS} {k a w b : Nat} (ha : a < 3) (hw : w < 12) (hb : b < 3) : ∀ d v, v + d ≤ 12 → ∀ u, u ∈ rowL σ k a w b d v → mOk u := by
  intro d
  induction d with
  | zero => intro v _ u hu; cases hu
  | succ d ih =>
    intro v hv u hu
    rcases List.mem_append.mp hu with h | h
    · by_cases hc : cnd σ k (12 * a + w) b v
      · rw [if_pos hc] at h
        rw [List.mem_singleton.mp h]
        exact ⟨ha, hw, hb, by show v < 12; omega⟩
      · rw [if_neg hc] at h
        cases h
    · exact ih (v + 1) (by omega) u h
theorem takL_ok {σ : mS} (hW : WY σ) {k a w : Nat} (ha : a < 3) (hw : w < 12) : ∀ d b, b + d ≤ 3 → ∀ u, u ∈ takL σ k a w d b → mOk u := by
  intro d
  induction d with
  | zero => intro v _ u hu; cases hu
  | succ d ih =>
    intro b hb u hu
    rcases List.mem_append.mp hu with h | h
    · by_cases hc : b = a
      · rw [if_pos hc] at h
        cases h
      · rw [if_neg hc] at h
        have := (hW.2.1 b (by omega)).2.2
        exact rowL_ok ha hw (by omega) _ 0 (by omega) u h
    · exact ih (b + 1) (by omega) u h
theorem wayL_ok {σ : mS} (hW : WY σ) {k a w : Nat} (ha : a < 3) (hw : w < 12) : ∀ u, u ∈ wayL σ k a w → mOk u := by
  intro u hu
  unfold wayL at hu
  split at hu
  · split at hu
    · rw [List.mem_singleton.mp hu]
      exact ⟨ha, hw, trivial⟩
    · exact takL_ok hW ha hw _ 0 (by have := hW.1.2; omega) u hu
  · cases hu
section Look
variable {σ : mS} {τ : mL} {R : Int32 × mS × mL} {k a w : Nat}
theorem tm_at {ρ : mS} (hR : RI ρ) (hk : k < N (ρ 22 0)) {v : Mv} (hv : mOk v) {x6 x7 : Int32} : ∃ ρ', Ev (fun n => Mo_tryMove_f n 0 (J k) (J v.1) (J v.2.1) (mY v) (mU v) x6 x7 ρ τ) (0, ρ', τ) ∧ mvO ρ k v ρ' := by
  obtain ⟨ρ', e, o⟩ := tryMove_q (σ := ρ) (τ := τ) (q := (ρ 15, ρ 17 0)) (k := k) (a := v.1) (w := v.2.1) (y := mY v) (u := mU v) (x6 := x6) (x7 := x7) hR.1.1 hR.2.1 hk (gHyp_of hR hk hv) (fun i hi => hR.2.2 k i hk hi)
  rw [ez_id] at e
  exact ⟨ρ', e, o⟩
theorem tw_74 (hR : RI σ) (hk : k < N (σ 22 0)) (ha : a < 3) (hw : w < 12) {b : Nat} (hb : b < N (σ 1 0)) (hba : b ≠ a) : ∀ d v (ρ : mS), v + d = N (σ 3 b) → kept σ ρ → ∃ ρ', (∀ R, Ev (fun n => Mo_tryWay_f n 62 (J k) (J a) (J w) (J (12 * a + w)) (J (b + 1)) 0 ρ' τ) R → Ev (fun n => Mo_tryWay_f n 74 (J k) (J a) (J w) (J (12 * a + w)) (J b) (J v) ρ τ) R) ∧ mvF k (rowL σ k a w b d v) ρ ρ' := by
  have hb3 : b < 3 := by have := hR.1.1.2; omega
  have hw2 := (hR.1.2.1 b hb3).2
  have hB : N (σ 3 b) ≤ 12 := hw2.2
  have hk2 : k < 200 := by have := hR.2.1.2; omega
  have a5 : xin (J b) 3 = true := xin_J (by omega) (by omega)
  have b5 : Int32.toNatClampNeg (J b) = b := J_nat (by omega)
  have c5 : J b + 1 = J (b + 1) := J_add b 1
  have a4 : xin (J (12 * a + w)) 36 = true := xin_J (by omega) (by omega)
  have b4 : Int32.toNatClampNeg (J (12 * a + w)) = 12 * a + w := J_nat (by omega)
  intro d
  induction d with
  | zero =>
    intro v ρ hv hK
    refine ⟨ρ, fun R e => ?_, rfl⟩
    refine Ev.succ (fun n => Mo_tryWay_e74 n _ _ _ _ _ _ _ _) ?_
    unfold Mo_tryWay_t74
    simp only [a5, b5, c5, if_true]
    refine Ev.pos (by rw [hK.1 3 b (by decide) (by decide), show v = N (σ 3 b) by omega]; exact sml_le hw2) e
  | succ d ih =>
    intro v ρ hv hK
    have hle : ¬ (ρ 3 b ≤ J v) := by
      rw [hK.1 3 b (by decide) (by decide)]
      exact sml_nle hw2 (by omega) (by omega)
    have nb : ¬ (J b = J a) := by rw [J_eq (by omega) (by omega)]; exact hba
    by_cases hsp : ρ 37 0 = 0
    · have a1 : xin (J (12 * b + v)) 36 = true := xin_J (by omega) (by omega)
      have b1 : Int32.toNatClampNeg (J (12 * b + v)) = 12 * b + v := J_nat (by omega)
      have a2 : xin (J (3 * k + b)) 600 = true := xin_J (by omega) (by omega)
      have b2 : Int32.toNatClampNeg (J (3 * k + b)) = 3 * k + b := J_nat (by omega)
      have c1 : J v + 1 = J (v + 1) := J_add v 1
      have e7 : ρ 7 (12 * b + v) = σ 7 (12 * b + v) := hK.1 7 _ (by decide) (by decide)
      have e9 : ρ 9 (12 * b + v) = σ 9 (12 * b + v) := hK.1 9 _ (by decide) (by decide)
      have e9' : ρ 9 (12 * a + w) = σ 9 (12 * a + w) := hK.1 9 _ (by decide) (by decide)
      have e24 : ρ 24 (3 * k + b) = σ 24 (3 * k + b) := hK.2.2.2.2.2 k b hk hb3
      by_cases hc : cnd σ k (12 * a + w) b v
      · have hmk : mOk (a, w, some (b, v)) := ⟨ha, hw, hb3, by show v < 12; omega⟩
        have hkr : k < N (ρ 22 0) := Nat.lt_of_lt_of_le hk hK.2.2.2.1
        obtain ⟨ρ1, e1, o1⟩ := tm_at (τ := τ) hK.2.2.2.2.1 hkr hmk (x6 := 0) (x7 := 0)
        have K1 := hK.trans (mvO_kept hK.2.2.2.2.1 hkr hmk o1)
        obtain ⟨ρ', e2, f2⟩ := ih (v + 1) ρ1 (by omega) K1
        refine ⟨ρ', fun R e => ?_, ?_⟩
        · refine Ev.succ (fun n => Mo_tryWay_e74 n _ _ _ _ _ _ _ _) ?_
          unfold Mo_tryWay_t74
          simp only [J12, J3, J_mul, J_add, a1, a2, a4, a5, b1, b2, b4, b5, c1, c5, if_true, e7, e9, e9', e24]
          refine Ev.neg hle (Ev.neg nb (Ev.pos hsp (Ev.pos hc.1 (Ev.pos hc.2 ?_))))
          exact Ev.ob e1 (e2 R e)
        · show mvF k ((if cnd σ k (12 * a + w) b v then [(a, w, some (b, v))] else []) ++ rowL σ k a w b d (v + 1)) ρ ρ'
          rw [if_pos hc]
          exact ⟨fun _ => ⟨ρ1, o1, f2⟩, fun t => absurd hsp t⟩
      · obtain ⟨ρ', e2, f2⟩ := ih (v + 1) ρ (by omega) hK
        refine ⟨ρ', fun R e => ?_, ?_⟩
        · refine Ev.succ (fun n => Mo_tryWay_e74 n _ _ _ _ _ _ _ _) ?_
          unfold Mo_tryWay_t74
          simp only [J12, J3, J_mul, J_add, a1, a2, a4, a5, b1, b2, b4, b5, c1, c5, if_true, e7, e9, e9', e24]
          refine Ev.neg hle (Ev.neg nb (Ev.pos hsp ?_))
          by_cases h7 : σ 7 (12 * b + v) = σ 24 (3 * k + b)
          · refine Ev.pos h7 (Ev.neg (fun t => hc ⟨h7, t⟩) (e2 R e))
          · exact Ev.neg h7 (e2 R e)
        · show mvF k ((if cnd σ k (12 * a + w) b v then [(a, w, some (b, v))] else []) ++ rowL σ k a w b d (v + 1)) ρ ρ'
          rw [if_neg hc]
          exact f2
    · refine ⟨ρ, fun R e => ?_, mvF_spent hsp⟩
      refine Ev.succ (fun n => Mo_tryWay_e74 n _ _ _ _ _ _ _ _) ?_
      unfold Mo_tryWay_t74
      simp only [a5, b5, c5, if_true]
      exact Ev.neg hle (Ev.neg nb (Ev.neg hsp e))
theorem tw_62 (hR : RI σ) (hk : k < N (σ 22 0)) (ha : a < 3) (hw : w < 12) : ∀ d b (ρ : mS), b + d = N (σ 1 0) → kept σ ρ → ∃ ρ', Ev (fun n => Mo_tryWay_f n 62 (J k) (J a) (J w) (J (12 * a + w)) (J b) 0 ρ τ) (0, ρ', τ) ∧ mvF k (takL σ k a w d b) ρ ρ' := by
  have hB : N (σ 1 0) ≤ 3 := hR.1.1.2
  intro d
  induction d with
  | zero =>
    intro b ρ hb hK
    refine ⟨ρ, ?_, rfl⟩
    refine Ev.succ (fun n => Mo_tryWay_e62 n _ _ _ _ _ _ _ _) ?_
    unfold Mo_tryWay_t62
    exact Ev.pos (by rw [hK.1 1 0 (by decide) (by decide), show b = N (σ 1 0) by omega]; exact sml_le hR.1.1) Ev.ret
  | succ d ih =>
    intro b ρ hb hK
    have hle : ¬ (ρ 1 0 ≤ J b) := by
      rw [hK.1 1 0 (by decide) (by decide)]
      exact sml_nle hR.1.1 (by omega) (by omega)
    by_cases hba : b = a
    · obtain ⟨ρ', e2, f2⟩ := ih (b + 1) ρ (by omega) hK
      refine ⟨ρ', ?_, ?_⟩
      · refine Ev.succ (fun n => Mo_tryWay_e62 n _ _ _ _ _ _ _ _) ?_
        unfold Mo_tryWay_t62
        refine Ev.neg hle ?_
        refine Ev.succ (fun n => Mo_tryWay_e74 n _ _ _ _ _ _ _ _) ?_
        unfold Mo_tryWay_t74
        have a5 : xin (J b) 3 = true := xin_J (by omega) (by omega)
        have b5 : Int32.toNatClampNeg (J b) = b := J_nat (by omega)
        have c5 : J b + 1 = J (b + 1) := J_add b 1
        simp only [a5, b5, c5, if_true]
        by_cases h3 : ρ 3 b ≤ 0
        · exact Ev.pos h3 e2
        · exact Ev.neg h3 (Ev.pos (by rw [hba]) e2)
      · show mvF k ((if b = a then [] else rowL σ k a w b (N (σ 3 b)) 0) ++ takL σ k a w d (b + 1)) ρ ρ'
        rw [if_pos hba]
        exact f2
    · obtain ⟨ρ1, e1, f1⟩ := tw_74 (τ := τ) hR hk ha hw (by omega) hba (N (σ 3 b)) 0 ρ (by omega) hK
      have hkr : k < N (ρ 22 0) := Nat.lt_of_lt_of_le hk hK.2.2.2.1
      have hb12 := (hR.1.2.1 b (by omega)).2.2
      have K1 := hK.trans (mvF_kept hK.2.2.2.2.1 hkr (rowL_ok ha hw (by omega) _ 0 (by omega)) f1)
      obtain ⟨ρ', e2, f2⟩ := ih (b + 1) ρ1 (by omega) K1
      refine ⟨ρ', ?_, ?_⟩
      · refine Ev.succ (fun n => Mo_tryWay_e62 n _ _ _ _ _ _ _ _) ?_
        unfold Mo_tryWay_t62
        exact Ev.neg hle (e1 _ e2)
      · show mvF k ((if b = a then [] else rowL σ k a w b (N (σ 3 b)) 0) ++ takL σ k a w d (b + 1)) ρ ρ'
        rw [if_neg hba]
        exact mvF_app f1 f2
theorem tryWay_q (hR : RI σ) (hk : k < N (σ 22 0)) (ha : a < N (σ 1 0)) (hw : w < 12) {ρ : mS} (hK : kept σ ρ) (hsp : ρ 37 0 = 0) {x4 x5 x6 : Int32} : ∃ ρ', Ev (fun n => Mo_tryWay_f n 0 (J k) (J a) (J w) x4 x5 x6 ρ τ) (0, ρ', τ) ∧ mvF k (wayL σ k a w) ρ ρ' := by
  have hB : N (σ 1 0) ≤ 3 := hR.1.1.2
  have ha3 : a < 3 := by omega
  have hk2 : k < 200 := by have := hR.2.1.2; omega
  have a1 : xin (J (12 * a + w)) 36 = true := xin_J (by omega) (by omega)
  have b1 : Int32.toNatClampNeg (J (12 * a + w)) = 12 * a + w := J_nat (by omega)
  have a2 : xin (J (3 * k + a)) 600 = true := xin_J (by omega) (by omega)
  have b2 : Int32.toNatClampNeg (J (3 * k + a)) = 3 * k + a := J_nat (by omega)
  have e7 : ρ 7 (12 * a + w) = σ 7 (12 * a + w) := hK.1 7 _ (by decide) (by decide)
  have e9 : ρ 9 (12 * a + w) = σ 9 (12 * a + w) := hK.1 9 _ (by decide) (by decide)
  have e24 : ρ 24 (3 * k + a) = σ 24 (3 * k + a) := hK.2.2.2.2.2 k a hk ha3
  have enter : ∀ R, Ev (fun n => if σ 7 (12 * a + w) = σ 24 (3 * k + a) then (if 0 ≤ σ 9 (12 * a + w) then (if σ 9 (12 * a + w) = 0 then obd (Mo_tryMove_f n 0 (J k) (J a) (J w) ((-1) : Int32) ((-1) : Int32) 0 0 ρ τ) (fun r8 => some (0, r8.2.1, r8.2.2)) else Mo_tryWay_f n 62 (J k) (J a) (J w) (J (12 * a + w)) (J 0) 0 ρ τ) else some (0, ρ, τ)) else some (0, ρ, τ)) R → Ev (fun n => Mo_tryWay_f n 0 (J k) (J a) (J w) x4 x5 x6 ρ τ) R := by
    intro R e
    refine Ev.succ (fun n => Mo_tryWay_e0 n _ _ _ _ _ _ _ _) ?_
    unfold Mo_tryWay_t0
    simp only [J12, J3, J_mul, J_add, a1, a2, b1, b2, if_true, e7, e9, e24]
    exact e
  unfold wayL
  by_cases h7 : σ 7 (12 * a + w) = σ 24 (3 * k + a)
  · by_cases h9 : 0 ≤ σ 9 (12 * a + w)
    · rw [if_pos ⟨h7, h9⟩]
      by_cases h0 : σ 9 (12 * a + w) = 0
      · rw [if_pos h0]
        have hmk : mOk (a, w, none) := ⟨ha3, hw, trivial⟩
        have hkr : k < N (ρ 22 0) := Nat.lt_of_lt_of_le hk hK.2.2.2.1
        obtain ⟨ρ1, e1, o1⟩ := tm_at (τ := τ) hK.2.2.2.2.1 hkr hmk (x6 := 0) (x7 := 0)
        refine ⟨ρ1, enter _ (Ev.pos h7 (Ev.pos h9 (Ev.pos h0 ?_))), ⟨fun _ => ⟨ρ1, o1, rfl⟩, fun t => absurd hsp t⟩⟩
        exact Ev.ob e1 Ev.ret
      · rw [if_neg h0]
        obtain ⟨ρ', e2, f2⟩ := tw_62 (τ := τ) hR hk ha3 hw (N (σ 1 0)) 0 ρ (by omega) hK
        exact ⟨ρ', enter _ (Ev.pos h7 (Ev.pos h9 (Ev.neg h0 e2))), f2⟩
    · rw [if_neg (fun t => h9 t.2)]
      exact ⟨ρ, enter _ (Ev.pos h7 (Ev.neg h9 Ev.ret)), rfl⟩
  · rw [if_neg (fun t => h7 t.1)]
    exact ⟨ρ, enter _ (Ev.neg h7 Ev.ret), rfl⟩
theorem lk_22 (hR : RI σ) (hk : k < N (σ 22 0)) (ha : a < N (σ 1 0)) : ∀ d w (ρ : mS), w + d = N (σ 3 a) → kept σ ρ → ∃ ρ', (∀ R, Ev (fun n => Mo_lookAt_f n 12 (J k) (J (a + 1)) 0 ρ' τ) R → Ev (fun n => Mo_lookAt_f n 22 (J k) (J a) (J w) ρ τ) R) ∧ mvF k (lkR σ k a d w) ρ ρ' ∧ kept σ ρ' := by
  have hB : N (σ 1 0) ≤ 3 := hR.1.1.2
  have hw2 := (hR.1.2.1 a (by omega)).2
  have hB2 : N (σ 3 a) ≤ 12 := hw2.2
  have a5 : xin (J a) 3 = true := xin_J (by omega) (by omega)
  have b5 : Int32.toNatClampNeg (J a) = a := J_nat (by omega)
  have c5 : J a + 1 = J (a + 1) := J_add a 1
  intro d
  induction d with
  | zero =>
    intro w ρ hw hK
    refine ⟨ρ, fun R e => ?_, rfl, hK⟩
    refine Ev.succ (fun n => Mo_lookAt_e22 n _ _ _ _ _) ?_
    unfold Mo_lookAt_t22
    simp only [a5, b5, c5, if_true]
    exact Ev.pos (by rw [hK.1 3 a (by decide) (by decide), show w = N (σ 3 a) by omega]; exact sml_le hw2) e
  | succ d ih =>
    intro w ρ hw hK
    have hle : ¬ (ρ 3 a ≤ J w) := by
      rw [hK.1 3 a (by decide) (by decide)]
      exact sml_nle hw2 (by omega) (by omega)
    by_cases hsp : ρ 37 0 = 0
    · obtain ⟨ρ1, e1, f1⟩ := tryWay_q (τ := τ) hR hk ha (w := w) (by omega) hK hsp (x4 := 0) (x5 := 0) (x6 := 0)
      have hkr : k < N (ρ 22 0) := Nat.lt_of_lt_of_le hk hK.2.2.2.1
      have K1 := hK.trans (mvF_kept hK.2.2.2.2.1 hkr (wayL_ok hR.1 (by omega) (by omega)) f1)
      obtain ⟨ρ', e2, f2, K2⟩ := ih (w + 1) ρ1 (by omega) K1
      refine ⟨ρ', fun R e => ?_, mvF_app f1 f2, K2⟩
      refine Ev.succ (fun n => Mo_lookAt_e22 n _ _ _ _ _) ?_
      unfold Mo_lookAt_t22
      have c1 : J w + 1 = J (w + 1) := J_add w 1
      simp only [a5, b5, c1, c5, if_true]
      exact Ev.neg hle (Ev.pos hsp (Ev.ob e1 (e2 R e)))
    · refine ⟨ρ, fun R e => ?_, mvF_spent hsp, hK⟩
      refine Ev.succ (fun n => Mo_lookAt_e22 n _ _ _ _ _) ?_
      unfold Mo_lookAt_t22
      simp only [a5, b5, c5, if_true]
      exact Ev.neg hle (Ev.neg hsp e)
theorem lk_12 (hR : RI σ) (hk : k < N (σ 22 0)) : ∀ d a (ρ : mS), a + d = N (σ 1 0) → kept σ ρ → ∃ ρ', (∀ R, Ev (fun n => Mo_lookAt_f n 12 (J k) (J (N (σ 1 0))) 0 ρ' τ) R → Ev (fun n => Mo_lookAt_f n 12 (J k) (J a) 0 ρ τ) R) ∧ mvF k (lkL σ k d a) ρ ρ' ∧ kept σ ρ' := by
  have hB : N (σ 1 0) ≤ 3 := hR.1.1.2
  intro d
  induction d with
  | zero =>
    intro a ρ ha hK
    refine ⟨ρ, fun R e => ?_, rfl, hK⟩
    rw [show a = N (σ 1 0) by omega]
    exact e
  | succ d ih =>
    intro a ρ ha hK
    have hle : ¬ (ρ 1 0 ≤ J a) := by
      rw [hK.1 1 0 (by decide) (by decide)]
      exact sml_nle hR.1.1 (by omega) (by omega)
    obtain ⟨ρ1, e1, f1, K1⟩ := lk_22 (τ := τ) hR hk (a := a) (by omega) (N (σ 3 a)) 0 ρ (by omega) hK
    obtain ⟨ρ', e2, f2, K2⟩ := ih (a + 1) ρ1 (by omega) K1
    refine ⟨ρ', fun R e => ?_, mvF_app f1 f2, K2⟩
    refine Ev.succ (fun n => Mo_lookAt_e12 n _ _ _ _ _) ?_
    unfold Mo_lookAt_t12
    exact Ev.neg hle (e1 R (e2 R e))
def lkE (σ : mS) (k : Nat) : mS := if σ 37 0 = 0 then su (su (su (su σ 29 k (σ 40 0)) 34 0 (σ 34 0 + σ 40 0)) 35 0 (σ 35 0 + σ 41 0)) 23 0 (σ 23 0 + 1) else σ
def lkB (σ : mS) : mS := su (su σ 40 0 0) 41 0 0
theorem lookAt_q (hR : RI σ) (hk : k < N (σ 22 0)) {x2 x3 : Int32} : ∃ σ1, mvF k (movesL σ k) (lkB σ) σ1 ∧ kept σ σ1 ∧ Ev (fun n => Mo_lookAt_f n 0 (J k) x2 x3 σ τ) (0, lkE σ1 k, τ) := by
  have hk2 : k < 200 := by have := hR.2.1.2; omega
  have K0 : kept σ (lkB σ) := kept_same hR (fun a b _ h => by unfold lkB; rw [su_n (by omega), su_n (by omega)]) (fun b => rfl) rfl rfl (fun b => rfl)
  obtain ⟨σ1, e1, f1, K1⟩ := lk_12 (τ := τ) hR hk (N (σ 1 0)) 0 (lkB σ) (by omega) K0
  refine ⟨σ1, f1, K1, ?_⟩
  refine Ev.succ (fun n => Mo_lookAt_e0 n _ _ _ _ _) ?_
  unfold Mo_lookAt_t0
  simp only [bnd]
  refine e1 _ ?_
  refine Ev.succ (fun n => Mo_lookAt_e12 n _ _ _ _ _) ?_
  unfold Mo_lookAt_t12
  refine Ev.pos (by rw [K1.1 1 0 (by decide) (by decide)]; exact sml_le hR.1.1) ?_
  have a1 : xin (J k) 200 = true := xin_J (by omega) (by omega)
  have b1 : Int32.toNatClampNeg (J k) = k := J_nat (by omega)
  by_cases h : σ1 37 0 = 0
  · have eE : lkE σ1 k = su (su (su (su σ1 29 k (σ1 40 0)) 34 0 (σ1 34 0 + σ1 40 0)) 35 0 (σ1 35 0 + σ1 41 0)) 23 0 (σ1 23 0 + 1) := by unfold lkE; rw [if_pos h]
    rw [eE]
    refine Ev.pos h ?_
    simp only [a1, b1, if_true, bnd]
    rw [su_n (show (34 : Nat) ≠ 29 by decide), su_n (show (40 : Nat) ≠ 29 by decide), su_n (show (35 : Nat) ≠ 34 by decide), su_n (show (35 : Nat) ≠ 29 by decide), su_n (show (41 : Nat) ≠ 34 by decide), su_n (show (41 : Nat) ≠ 29 by decide), su_n (show (23 : Nat) ≠ 35 by decide), su_n (show (23 : Nat) ≠ 34 by decide), su_n (show (23 : Nat) ≠ 29 by decide)]
    exact Ev.ret
  · have eE : lkE σ1 k = σ1 := by unfold lkE; rw [if_neg h]
    rw [eE]
    exact Ev.neg h Ev.ret
end Look
