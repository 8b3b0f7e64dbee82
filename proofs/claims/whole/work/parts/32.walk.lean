/-! THE REFERENCE: walk -/
/-- STATES one after the other, till SPENT -/
def wkF : Nat → Nat → mS → mS → Prop
  | 0, _, σ, σ' => σ' = σ
  | d + 1, k, σ, σ' => (k < N (σ 22 0) → σ 37 0 = 0 → ∃ σ1, mvF k (movesL σ k) (lkB σ) σ1 ∧ wkF d (k + 1) (lkE σ1 k) σ') ∧ (¬ (k < N (σ 22 0) ∧ σ 37 0 = 0) → σ' = σ)
def wB (σ : mS) : mS := su (su (su (su (su (su (su (su σ 0 0 0) 21 0 1) 36 0 (σ 1 0)) 22 0 0) 23 0 0) 34 0 0) 35 0 0) 37 0 0
def canW (σ : mS) : Prop := 0 < N (σ 1 0) ∧ ∀ a, a < N (σ 1 0) → 0 < N (σ 2 a)
def told (σ : mS) : Nat → Int32 := fun b => if b < 3 then (if σ 20 0 = 0 then (-2 : Int32) else σ 19 (b + 1)) else σ 42 b
theorem lkE_kept {σ σ1 : mS} {k : Nat} (h : kept σ σ1) : kept σ (lkE σ1 k) := by
  unfold lkE
  split
  · refine h.trans (kept_same h.2.2.2.2.1 (fun a b _ g => ?_) (fun b => rfl) rfl rfl (fun b => rfl))
    rw [su_n (by omega), su_n (by omega), su_n (by omega), su_n (by omega)]
  · exact h
section Walk
variable {σ : mS} {τ : mL} {R : Int32 × mS × mL}
theorem wk_107 : ∀ d k (σ : mS), k + d = 200 → RI σ → ∃ σ', (∀ R, Ev (fun n => Mo_walk_f n 135 1 (J 0) σ' τ) R → Ev (fun n => Mo_walk_f n 107 1 (J k) σ τ) R) ∧ wkF d k σ σ' ∧ kept σ σ' := by
  intro d
  induction d with
  | zero =>
    intro k σ hk hR
    have hN := hR.2.1.2
    refine ⟨σ, fun R e => ?_, rfl, kept.rfl hR⟩
    refine Ev.succ (fun n => Mo_walk_e107 n _ _ _ _) ?_
    unfold Mo_walk_t107
    refine Ev.pos ?_ e
    rw [hR.2.1.1, J_le (by omega) (by omega)]
    omega
  | succ d ih =>
    intro k σ hk hR
    have hN := hR.2.1.2
    by_cases h : k < N (σ 22 0)
    · have hle : ¬ (σ 22 0 ≤ J k) := sml_nle hR.2.1 (by omega) h
      by_cases hs : σ 37 0 = 0
      · obtain ⟨σ1, f1, K1, e1⟩ := lookAt_q (τ := τ) hR h (x2 := 0) (x3 := 0)
        have K2 := lkE_kept (k := k) K1
        obtain ⟨σ', e2, f2, K3⟩ := ih (k + 1) (lkE σ1 k) (by omega) K2.2.2.2.2.1
        refine ⟨σ', fun R e => ?_, ⟨fun _ _ => ⟨σ1, f1, f2⟩, fun t => absurd ⟨h, hs⟩ t⟩, K2.trans K3⟩
        refine Ev.succ (fun n => Mo_walk_e107 n _ _ _ _) ?_
        unfold Mo_walk_t107
        refine Ev.neg hle (Ev.pos hs (Ev.ob e1 ?_))
        dsimp only
        rw [show J k + 1 = J (k + 1) from J_add k 1]
        exact e2 R e
      · refine ⟨σ, fun R e => ?_, ⟨fun _ t => absurd t hs, fun _ => rfl⟩, kept.rfl hR⟩
        refine Ev.succ (fun n => Mo_walk_e107 n _ _ _ _) ?_
        unfold Mo_walk_t107
        exact Ev.neg hle (Ev.neg hs e)
    · refine ⟨σ, fun R e => ?_, ⟨fun t => absurd t h, fun _ => rfl⟩, kept.rfl hR⟩
      refine Ev.succ (fun n => Mo_walk_e107 n _ _ _ _) ?_
      unfold Mo_walk_t107
      refine Ev.pos ?_ e
      rw [hR.2.1.1, J_le (by omega) (by omega)]
      omega
theorem wk_135 : Ev (fun n => Mo_walk_f n 135 1 (J 0) σ τ) ((if σ 37 0 = 0 then σ 22 0 else ((-2 : Int32)) - σ 22 0), st σ 42 (told σ), τ) := by
  have key := Ev.up (f := fun n i T => Mo_walk_f n 135 1 (J i) (st σ 42 T) τ) (R := ((if σ 37 0 = 0 then σ 22 0 else ((-2 : Int32)) - σ 22 0), st σ 42 (told σ), τ)) 3 (fun i T => fu T i (if σ 20 0 = 0 then (-2 : Int32) else σ 19 (i + 1))) (fun _ _ => True) (fun _ _ _ _ => trivial) (fun i T hi _ ee => by
    refine Ev.succ (fun n => Mo_walk_e135 n _ _ _ _) ?_
    unfold Mo_walk_t135
    refine Ev.neg (by rw [J3, J_le (by omega) (by omega)]; omega) ?_
    have a1 : xin (J i) 3 = true := xin_J (by omega) (by omega)
    have b1 : Int32.toNatClampNeg (J i) = i := J_nat (by omega)
    have a2 : xin (J (i + 1)) 4 = true := xin_J (by omega) (by omega)
    have b2 : Int32.toNatClampNeg (J (i + 1)) = i + 1 := J_nat (by omega)
    have c1 : J i + 1 = J (i + 1) := J_add i 1
    simp only [a1, a2, b1, b2, c1, if_true, bnd, su_st]
    rw [st_ne _ (by decide), st_ne _ (by decide)]
    by_cases h : σ 20 0 = 0
    · rw [if_pos h] at ee
      exact Ev.pos h ee
    · rw [if_neg h] at ee
      exact Ev.neg h ee) 3 0 (σ 42) (by omega) trivial
  rw [st_id] at key
  refine key ?_
  rw [it_fu0 (fun i => if σ 20 0 = 0 then (-2 : Int32) else σ 19 (i + 1))]
  show Ev (fun n => Mo_walk_f n 135 1 (J 3) (st σ 42 (told σ)) τ) _
  refine Ev.succ (fun n => Mo_walk_e135 n _ _ _ _) ?_
  unfold Mo_walk_t135
  refine Ev.pos (by decide) ?_
  rw [st_ne _ (by decide), st_ne _ (by decide)]
  by_cases h : σ 37 0 = 0
  · refine Ev.pos h ?_
    simp only [h, if_true]
    exact Ev.ret
  · refine Ev.neg h ?_
    simp only [h, if_false]
    exact Ev.ret
def al1 (σ : mS) (a : Nat) (b : Int32) : Int32 := if b = 0 then 0 else if σ 2 a ≤ 0 then 0 else 1
theorem al_is (hW : WY σ) : (it (al1 σ) 0 (N (σ 1 0)) (if σ 1 0 ≤ 0 then 0 else 1) = 1 ∧ canW σ) ∨ (it (al1 σ) 0 (N (σ 1 0)) (if σ 1 0 ≤ 0 then 0 else 1) = 0 ∧ ¬ canW σ) := by
  have hB := hW.1.2
  have pos : ∀ {x : Int32} {B : Nat}, sml x B → B < 2147483648 → (x ≤ 0 ↔ ¬ (0 < N x)) := by
    intro x B h hB
    have h2 := h.2
    constructor
    · intro g hp
      exact sml_nle h hB hp g
    · intro g
      have e : N x = 0 := by omega
      have := sml_le h
      rw [e] at this
      exact this
  have h := it_inv (al1 σ) (fun a b => (b = 1 ∧ 0 < N (σ 1 0) ∧ ∀ j, j < a → 0 < N (σ 2 j)) ∨ (b = 0 ∧ ¬ canW σ)) (N (σ 1 0)) (fun a b ha hq => by
    unfold al1
    rcases hq with ⟨h1, h2, h3⟩ | ⟨h1, h2⟩
    · rw [if_neg (by rw [h1]; decide)]
      have hp := pos (hW.2.1 a (by omega)).1 (by omega)
      by_cases he : σ 2 a ≤ 0
      · rw [if_pos he]
        exact Or.inr ⟨rfl, fun t => hp.mp he (t.2 a ha)⟩
      · rw [if_neg he]
        refine Or.inl ⟨rfl, h2, fun j hj => ?_⟩
        by_cases hja : j = a
        · rw [hja]
          exact Nat.lt_of_not_le (fun t => he (hp.mpr (by omega)))
        · exact h3 j (by omega)
    · rw [if_pos h1]
      exact Or.inr ⟨rfl, h2⟩) (N (σ 1 0)) 0 (if σ 1 0 ≤ 0 then 0 else 1) (by omega) (by
    have hp := pos hW.1 (by omega)
    by_cases he : σ 1 0 ≤ 0
    · rw [if_pos he]
      exact Or.inr ⟨rfl, fun t => hp.mp he t.1⟩
    · rw [if_neg he]
      exact Or.inl ⟨rfl, Nat.lt_of_not_le (fun t => he (hp.mpr (by omega))), fun j hj => by omega⟩)
  rcases h with ⟨h1, h2, h3⟩ | ⟨h1, h2⟩
  · exact Or.inl ⟨h1, h2, h3⟩
  · exact Or.inr ⟨h1, h2⟩
theorem wk_20 (hW : WY σ) {x1 x2 : Int32} (e : Ev (fun n => Mo_walk_f n 20 (it (al1 σ) 0 (N (σ 1 0)) (if σ 1 0 ≤ 0 then 0 else 1)) (J (N (σ 1 0))) (su σ 0 0 0) τ) R) : Ev (fun n => Mo_walk_f n 0 x1 x2 σ τ) R := by
  have hB := hW.1.2
  have r1 : su σ 0 0 0 1 0 = σ 1 0 := su_n (by decide)
  have key := Ev.up (f := fun n a b => Mo_walk_f n 20 b (J a) (su σ 0 0 0) τ) (R := R) (N (σ 1 0)) (al1 σ) (fun _ _ => True) (fun _ _ _ _ => trivial) (fun a b ha _ ee => by
    refine Ev.succ (fun n => Mo_walk_e20 n _ _ _ _) ?_
    unfold Mo_walk_t20
    refine Ev.neg (by rw [r1]; exact sml_nle hW.1 (by omega) ha) ?_
    have a1 : xin (J a) 3 = true := xin_J (by omega) (by omega)
    have b1 : Int32.toNatClampNeg (J a) = a := J_nat (by omega)
    have c1 : J a + 1 = J (a + 1) := J_add a 1
    simp only [a1, b1, c1, if_true]
    rw [su_n (show (2 : Nat) ≠ 0 by decide)]
    unfold al1 at ee
    by_cases hb : b = 0
    · rw [if_pos hb] at ee
      exact Ev.pos hb ee
    · rw [if_neg hb] at ee
      refine Ev.neg hb ?_
      by_cases h2 : σ 2 a ≤ 0
      · rw [if_pos h2] at ee
        exact Ev.pos h2 ee
      · rw [if_neg h2] at ee
        exact Ev.neg h2 ee) (N (σ 1 0)) 0 (if σ 1 0 ≤ 0 then 0 else 1) (by omega) trivial e
  refine Ev.succ (fun n => Mo_walk_e0 n _ _ _ _) ?_
  unfold Mo_walk_t0
  simp only [bnd]
  rw [r1]
  by_cases h : σ 1 0 ≤ 0
  · rw [if_pos h] at key
    exact Ev.pos h key
  · rw [if_neg h] at key
    exact Ev.neg h key
theorem walk_no (hW : WY σ) (hc : ¬ canW σ) {x1 x2 : Int32} : Ev (fun n => Mo_walk_f n 0 x1 x2 σ τ) (((-1) : Int32), su σ 0 0 0, τ) := by
  refine wk_20 hW ?_
  rcases al_is hW with ⟨_, h⟩ | ⟨h, _⟩
  · exact absurd h hc
  · rw [h]
    refine Ev.succ (fun n => Mo_walk_e20 n _ _ _ _) ?_
    unfold Mo_walk_t20
    refine Ev.pos (by rw [su_n (by decide)]; exact sml_le hW.1) ?_
    exact Ev.pos rfl Ev.ret
/-- how a walk begins -/
def wS (σ : mS) : mS := eg (wB σ) (fgA (wB σ))
theorem stO_RI {σ σ' : mS} (hW : WY σ) (h22 : σ 22 0 = J 0) (h : stO σ σ') : RI σ' ∧ yq σ' σ := by
  have fin : ∀ ρ : mS, sx jk σ' ρ → RI ρ → yq ρ σ → RI σ' ∧ yq σ' σ := by
    intro ρ s g y0
    have y : yq σ' ρ := s.yq (by decide)
    have e22 : σ' 22 0 = ρ 22 0 := s 22 0 (by decide)
    refine ⟨⟨g.1.eq y, by rw [e22]; exact g.2.1, fun j i hj hi => ?_⟩, fun a b x z => (y a b x z).trans (y0 a b x z)⟩
    rw [e22] at hj
    rw [y 1 0 (by decide) (by decide)] at hi
    rw [s 24 _ (by decide)]
    exact g.2.2 j i hj hi
  by_cases hE : (qS σ (σ 15)).2 = 0
  · have ys : ∀ Zb Ze, yq (stS σ Zb Ze) σ := fun Zb Ze a b x y => by
      unfold stS
      rw [if_neg (by omega), if_neg (by omega), if_neg (by omega), if_neg (by omega), if_neg (by omega), if_neg (by omega), if_neg (by omega), if_neg (by omega), if_neg (by omega), if_neg (by omega)]
    have e22 : ∀ Zb Ze, stS σ Zb Ze 22 0 = J 1 := fun Zb Ze => by
      show σ 22 0 + 1 = J 1
      rw [h22]
      exact J_add 0 1
    refine fin _ (h.2 hE) ⟨hW.eq (ys _ _), by rw [e22]; exact sml_J (by omega) (by omega), fun j i hj hi => ?_⟩ (ys _ _)
    rw [e22, show N (J 1) = 1 from J_nat (by omega)] at hj
    rw [ys _ _ 1 0 (by decide) (by decide)] at hi
    have hB := hW.1.2
    show sml (if 3 * j + i < 3 then (if 3 * j + i < N (σ 1 0) then J 0 else (-2 : Int32)) else σ 24 (3 * j + i)) 5
    rw [if_pos (by omega), if_pos (by omega)]
    exact sml_J (by omega) (by omega)
  · refine fin _ (h.1 hE) ⟨hW, by rw [h22]; exact sml_J (by omega) (by omega), fun j i hj hi => ?_⟩ (fun _ _ _ _ => rfl)
    rw [h22, show N (J 0) = 0 from J_nat (by omega)] at hj
    omega
theorem wS_yq (σ : mS) : yq (wS σ) σ := fun a b x y => by
  unfold wS
  rw [eg_ne _ _ _ (by omega) (by omega)]
  unfold wB
  rw [su_n (by omega), su_n (by omega), su_n (by omega), su_n (by omega), su_n (by omega), su_n (by omega), su_n (by omega), su_n (by omega)]
theorem walk_yes (hW : WY σ) (hc : canW σ) {x1 x2 : Int32} : ∃ σ1 σ2, stO (wS σ) σ1 ∧ wkF 200 0 σ1 σ2 ∧ kept σ1 σ2 ∧ yq σ2 σ ∧ Ev (fun n => Mo_walk_f n 0 x1 x2 σ τ) ((if σ2 37 0 = 0 then σ2 22 0 else ((-2 : Int32)) - σ2 22 0), st σ2 42 (told σ2), τ) := by
  have yS := wS_yq σ
  have h22 : wS σ 22 0 = J 0 := rfl
  have yB : yq (wB σ) σ := fun a b x y => by
    unfold wB
    rw [su_n (by omega), su_n (by omega), su_n (by omega), su_n (by omega), su_n (by omega), su_n (by omega), su_n (by omega), su_n (by omega)]
  obtain ⟨σ1, e1, o1, o2⟩ := start_q (σ := wS σ) (τ := τ) (q := (wS σ 15, wS σ 17 0)) (x1 := 0) (hW.eq yS) h22
  rw [ez_id] at e1
  have O : stO (wS σ) σ1 := ⟨o1, o2⟩
  have R1 := stO_RI (hW.eq yS) h22 O
  obtain ⟨σ2, e2, f2, K2⟩ := wk_107 (τ := τ) 200 0 σ1 (by omega) R1.1
  refine ⟨σ1, σ2, O, f2, K2, fun a b x y => (K2.1 a b x y).trans ((R1.2 a b x y).trans (yS a b x y)), ?_⟩
  refine wk_20 hW ?_
  rcases al_is hW with ⟨h, _⟩ | ⟨_, h⟩
  · rw [h]
    refine Ev.succ (fun n => Mo_walk_e20 n _ _ _ _) ?_
    unfold Mo_walk_t20
    refine Ev.pos (by rw [su_n (by decide)]; exact sml_le hW.1) ?_
    refine Ev.neg (by decide) ?_
    simp only [bnd]
    have e : su (su (su (su (su (su (su (su σ 0 0 0) 21 0 1) 36 0 (su (su σ 0 0 0) 21 0 1 1 0)) 22 0 0) 23 0 0) 34 0 0) 35 0 0) 37 0 0 = wB σ := rfl
    rw [e]
    refine Ev.ob (findGreatest_q (hW.eq yB)) ?_
    dsimp only
    refine Ev.ob e1 ?_
    exact e2 _ wk_135
  · exact absurd hc h
end Walk
