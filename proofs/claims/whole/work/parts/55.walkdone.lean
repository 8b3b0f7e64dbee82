/-! the walk's invariant from its start to its end -/
theorem lkR_E {σ : mS} {k a : Nat} (ha : a < N (σ 1 0)) : ∀ d w, w + d ≤ N (σ 3 a) → ∀ u, u ∈ lkR σ k a d w → mvE σ u := by
  have row : ∀ w, w < N (σ 3 a) → ∀ b, b < N (σ 1 0) → ∀ d v, v + d ≤ N (σ 3 b) → ∀ u, u ∈ rowL σ k a w b d v → mvE σ u := by
    intro w hw b hb d
    induction d with
    | zero => intro v _ u hu; cases hu
    | succ d ih =>
      intro v hv u hu
      rcases List.mem_append.mp hu with h | h
      · by_cases hc : cnd σ k (12 * a + w) b v
        · rw [if_pos hc] at h
          rw [List.mem_singleton.mp h]
          refine ⟨⟨ha, hw⟩, fun t ht => ?_⟩
          cases ht
          exact ⟨hb, by show v < N (σ 3 b); omega⟩
        · rw [if_neg hc] at h
          cases h
      · exact ih (v + 1) (by omega) u h
  have tak : ∀ w, w < N (σ 3 a) → ∀ d b, b + d ≤ N (σ 1 0) → ∀ u, u ∈ takL σ k a w d b → mvE σ u := by
    intro w hw d
    induction d with
    | zero => intro b _ u hu; cases hu
    | succ d ih =>
      intro b hb u hu
      rcases List.mem_append.mp hu with h | h
      · by_cases hc : b = a
        · rw [if_pos hc] at h; cases h
        · rw [if_neg hc] at h
          exact row w hw b (by omega) _ 0 (by omega) u h
      · exact ih (b + 1) (by omega) u h
  intro d
  induction d with
  | zero => intro w _ u hu; cases hu
  | succ d ih =>
    intro w hw u hu
    rcases List.mem_append.mp hu with h | h
    · unfold wayL at h
      split at h
      · split at h
        · rw [List.mem_singleton.mp h]
          exact ⟨⟨ha, by show w < N (σ 3 a); omega⟩, fun t ht => by cases ht⟩
        · exact tak w (by omega) _ 0 (by omega) u h
      · cases h
    · exact ih (w + 1) (by omega) u h
theorem movesL_E {σ : mS} {k : Nat} : ∀ u, u ∈ movesL σ k → mvE σ u := by
  have main : ∀ d a, a + d ≤ N (σ 1 0) → ∀ u, u ∈ lkL σ k d a → mvE σ u := by
    intro d
    induction d with
    | zero => intro a _ u hu; cases hu
    | succ d ih =>
      intro a ha u hu
      rcases List.mem_append.mp hu with h | h
      · exact lkR_E (by omega) _ 0 (by omega) u h
      · exact ih (a + 1) (by omega) u h
  exact main _ 0 (by omega)
theorem mvF_AI {k : Nat} {L : List Mv} : ∀ {σ σ' : mS}, AI σ → k < N (σ 22 0) → (∀ v, v ∈ L → mvE σ v) → mvF k L σ σ' → AI σ' := by
  induction L with
  | nil => intro σ σ' h _ _ e; rw [show σ' = σ from e]; exact h
  | cons v L ih =>
    intro σ σ' h hk hv hF
    by_cases t : σ 37 0 = 0
    · obtain ⟨σ1, a, b⟩ := hF.1 t
      have he := hv v List.mem_cons_self
      have k1 := mvO_kept h.1 hk (mvE_ok h.1.1 he) a
      exact ih (mvO_AI h hk he a) (Nat.lt_of_lt_of_le hk k1.2.2.2.1) (fun u hu => mvE_cg k1.1 (hv u (List.mem_cons_of_mem _ hu))) b
    · rw [hF.2 t]; exact h
theorem lkB_AI {σ : mS} (h : AI σ) : AI (lkB σ) := AI_su (AI_su h 0 _ (by decide) (by decide) (by decide) (by decide) (by decide) (by decide) (by decide)) 0 _ (by decide) (by decide) (by decide) (by decide) (by decide) (by decide) (by decide)
theorem lkE_AI {σ : mS} (h : AI σ) (k : Nat) : AI (lkE σ k) := by
  unfold lkE
  split
  · exact AI_su (AI_su (AI_su (AI_su h _ _ (by decide) (by decide) (by decide) (by decide) (by decide) (by decide) (by decide)) _ _ (by decide) (by decide) (by decide) (by decide) (by decide) (by decide) (by decide)) _ _ (by decide) (by decide) (by decide) (by decide) (by decide) (by decide) (by decide)) _ _ (by decide) (by decide) (by decide) (by decide) (by decide) (by decide) (by decide)
  · exact h
theorem wkF_AI : ∀ d k {σ σ' : mS}, AI σ → wkF d k σ σ' → AI σ' := by
  intro d
  induction d with
  | zero => intro k σ σ' h e; rw [show σ' = σ from e]; exact h
  | succ d ih =>
    intro k σ σ' h hF
    by_cases t : k < N (σ 22 0) ∧ σ 37 0 = 0
    · obtain ⟨σ1, a, b⟩ := hF.1 t.1 t.2
      have h1 : AI σ1 := mvF_AI (lkB_AI h) (show k < N (lkB σ 22 0) from t.1) (fun v hv => mvE_cg (fun a b _ g => by unfold lkB; rw [su_n (by omega), su_n (by omega)]) (movesL_E v hv)) a
      exact ih (k + 1) (lkE_AI h1 k) b
    · rw [hF.2 t]; exact h
/-- all clocks 0 -/
def onesM : iM := fun _ _ => 1
theorem ones_zgd (m : Nat) : zgd m 1 onesM := ⟨fun i j k _ _ _ => by show (1 : Int) ≤ sm 1 1; decide, fun i _ => rfl, fun i j _ _ => Or.inr (by show (-1 : Int) ≤ 1 ∧ (1 : Int) ≤ 1; omega)⟩
theorem ones_eq {m : Nat} {v : Nat → Rat} (h : sem m onesM v) {i j : Nat} (hi : i < m) (hj : j < m) : v i - v j = 0 := by
  have a := (lb_one _).mp (h i j hi hj)
  have b := (lb_one _).mp (h j i hj hi)
  grind
theorem ones_eI (m : Nat) {l : Int} (hl : 0 ≤ l) : eI m l onesM := by
  have l0 : (0 : Rat) ≤ (l : Rat) := Rat.intCast_le_intCast.mpr hl
  refine ⟨zgd_mono (ones_zgd m) (by omega), ⟨fun v hv => ⟨v, hv, fun _ _ _ _ => Or.inl rfl, fun i j hi hj => ?_⟩, fun v hv i j hi hj hL X => ?_⟩, fun j _ => Int.le_refl _⟩
  · have := ones_eq hv hi hj
    grind
  · exfalso
    have := ones_eq hv hi hj
    grind
theorem ones_zI {l : Int} (hl : 0 ≤ l) (g : Nat → Int) : zI l g onesM onesM := by
  have h := ones_eI 4 hl
  refine ⟨h.1, h.2.1.2, fun j _ => Int.le_refl _, fun i j _ _ => Int.le_refl _, fun v hv => ?_⟩
  have e : ∀ x, x < 4 → v x = v 0 := fun x hx => by
    have := ones_eq hv hx (show 0 < 4 by omega)
    grind
  refine ⟨fun _ => v 0, fun i j _ _ => ?_, fun x hx => Or.inl ?_⟩
  · show lb 1 (v 0 - v 0)
    rw [lb_one]
    grind
  · rw [e x hx]
theorem ones_zP {b : Int32} {l : Int} (hl : 0 ≤ l) (g : Nat → Int) : zP b l g onesM onesM := ⟨ones_eI 5 hl, fun _ _ _ _ _ => rfl, fun _ => ones_zI hl g⟩
theorem z1_agr {m : Nat} (hm : m ≤ 5) (Z : Nat → Int32) : agr m (zi (z1 Z)) onesM := fun i j hi hj => by
  unfold zi z1
  rw [if_pos (by omega)]
  rfl
/-- all that is known of THE FIRST -/
theorem st_out {σ : mS} (hW : WY σ) (hV : WV σ) (hC : gC σ) (hc : canW σ) (Z0 Z1 : Nat → Int32) : (runM (arL σ pz0) onesM = none ∧ (qS σ Z0).2 = 1) ∨ ∃ Nz E, runM (arL σ pz0) onesM = some Nz ∧ (qS σ Z0).2 = 0 ∧ (σ 20 0 = 0 → agr 4 (zi (qS σ Z0).1) Nz) ∧ (¬ (σ 20 0 = 0) → ∃ Z, agr 4 (zi Z) Nz ∧ (qS σ Z0).1 = cl 4 (lt (σ 19) Z)) ∧ agr 5 (zi (qSe σ Z1).1) E ∧ runM (arL σ pz0) onesM = some E ∧ zP (σ 20 0) 13101 (gI σ) Nz E ∧ zP (σ 20 0) 13101 (gI σ) (zi (qS σ Z0).1) E ∧ gRun 4 (arL σ pz0) onesM ∧ gRun 5 (arL σ pz0) onesM := by
  have hVo := arL_V hW hV (p := pz0) (fun a _ => by unfold pz0; omega)
  have hG : ¬ (σ 20 0 = 0) → ∀ o, o ∈ arL σ pz0 → opG (fun i => (σ 19 i).toInt) o := fun _ => arL_G hW hV hC (fun a ha => by
    have := hc.2 a ha
    unfold pz0
    exact this)
  have hP : zP (σ 20 0) 13000 (fun i => (σ 19 i).toInt) onesM onesM := ones_zP (by decide) _
  have np1 := np_arL σ pz0
  have zr := zP_run (g := fun i => (σ 19 i).toInt) hC.1.1 hVo hG (by omega) (by omega) hP
  have rr := ref_run (gg := σ 19) hC.1.1 hC.1.2 hVo hG (by omega) (by omega) hP (Z := z1 Z0) (W := z1 Z1) (z1_agr (by omega) Z0) (z1_agr (by omega) Z1)
  have eS : qS σ Z0 = qLet (σ 20 0) (σ 19) (runQ 4 (arL σ pz0) (z1 Z0, 0)) := by
    unfold qS qLet
    rw [qar_run]
  have eE : qSe σ Z1 = runQ 5 (arL σ pz0) (z1 Z1, 0) := by
    unfold qSe
    rw [qar_run]
  rw [eS, eE]
  rcases rr with ⟨a, _, c⟩ | ⟨Nz, E, a1, a2, a3, a4, a5, a6, a7, a8, a9⟩
  · exact Or.inl ⟨a, c⟩
  · right
    rw [np1] at a8 a9
    refine ⟨Nz, E, a1, a5, fun hb => ?_, fun hb => ?_, a7, a2, a8, a9, zr.1, zr.2.1⟩
    · unfold qLet
      rw [if_pos hb]
      exact a4
    · refine ⟨(runQ 4 (arL σ pz0) (z1 Z0, 0)).1, a4, ?_⟩
      unfold qLet qlt
      rw [if_neg hb, if_pos a3]
      rfl
theorem stO_AI {σ σ' : mS} (hW : WY σ) (hV : WV σ) (hT : WT σ) (hC : gC σ) (hc : canW σ) (h22 : σ 22 0 = J 0) (h : stO σ σ') : AI σ' := by
  have R := stO_RI hW h22 h
  have base : ∀ ρ : mS, sx jk σ' ρ → (∀ b, ρ 19 b = σ 19 b) → ρ 20 0 = σ 20 0 → (∀ j a, j < N (ρ 22 0) → a < N (σ 1 0) → N (ρ 24 (3 * j + a)) < N (σ 2 a)) → (∀ k, k < N (ρ 22 0) → zP (σ 20 0) (lk k) (gI σ) (zz ρ k) (ze ρ k)) → AI σ' := by
    intro ρ s g19 g20 h1 h2
    have e20 : σ' 20 0 = σ 20 0 := (s 20 0 (by decide)).trans g20
    have eg : gI σ' = gI σ := by
      funext i
      unfold gI
      rw [s 19 i (by decide), g19]
    refine ⟨R.1, hV.eq R.2, WT_cg R.2 hT, gC_cg R.2 (fun b => (s 19 b (by decide)).trans (g19 b)) e20 hC, fun j a hj ha => ?_, fun k hk => ?_⟩
    · rw [s 22 0 (by decide)] at hj
      rw [R.2 1 0 (by decide) (by decide)] at ha
      rw [s 24 _ (by decide), R.2 2 a (by decide) (by decide)]
      exact h1 j a hj ha
    · rw [s 22 0 (by decide)] at hk
      rw [e20, eg]
      exact zP_cg ((zz_cg k (fun b _ => (s 25 _ (by decide)).symm)).sub (by omega)) (ze_cg k (fun b _ => (s 26 _ (by decide)).symm)) (h2 k hk)
  by_cases hE : (qS σ (σ 15)).2 = 0
  · have s := h.2 hE
    rcases st_out hW hV hC hc (σ 15) (qS σ (σ 15)).1 with ⟨_, t⟩ | ⟨Nz, E, _, _, _, _, a7, _, _, a9, _, _⟩
    · rw [hE] at t; exact absurd t (by decide)
    · generalize hqB : (qS σ (σ 15)).1 = Zb at s a9 a7
      generalize hqE : (qSe σ Zb).1 = Ze at s a7
      have e22 : N (stS σ Zb Ze 22 0) = 1 := by
        show N (σ 22 0 + 1) = 1
        rw [h22, show J 0 + 1 = J 1 from J_add 0 1]
        exact J_nat (by omega)
      refine base _ s (fun b => rfl) rfl (fun j a hj ha => ?_) (fun k hk => ?_)
      · rw [e22] at hj
        have hB := hW.1.2
        show N (if 3 * j + a < 3 then (if 3 * j + a < N (σ 1 0) then J 0 else (-2 : Int32)) else σ 24 (3 * j + a)) < N (σ 2 a)
        rw [if_pos (by omega), if_pos (by omega), show N (J 0) = 0 from J_nat (by omega)]
        exact hc.2 a ha
      · rw [e22] at hk
        have hk0 : k = 0 := by omega
        have ez1 : agr 5 (zi Zb) (zz (stS σ Zb Ze) k) := fun a b ha hb => by
          unfold zz zi
          show _ = (if 25 * k + (5 * a + b) < 25 then Zb (25 * k + (5 * a + b)) else σ 25 (25 * k + (5 * a + b))).toInt
          rw [if_pos (by omega), show 25 * k + (5 * a + b) = 5 * a + b by omega]
        have ee1 : agr 5 (zi Ze) (ze (stS σ Zb Ze) k) := fun a b ha hb => by
          unfold ze zi
          show _ = (if 25 * k + (5 * a + b) < 25 then Ze (25 * k + (5 * a + b)) else σ 26 (25 * k + (5 * a + b))).toInt
          rw [if_pos (by omega), show 25 * k + (5 * a + b) = 5 * a + b by omega]
        have p := zP_cg (ez1.sub (show 4 ≤ 5 by omega)) (fun a b ha hb => (a7 a b ha hb).symm.trans (ee1 a b ha hb)) a9
        exact zP_mono p (by unfold lk; omega)
  · refine base σ (h.1 hE) (fun b => rfl) rfl (fun j a hj _ => ?_) (fun k hk => ?_)
    · rw [h22, show N (J 0) = 0 from J_nat (by omega)] at hj
      omega
    · rw [h22, show N (J 0) = 0 from J_nat (by omega)] at hk
      omega
theorem wS_gC {σ : mS} (hW : WY σ) (hV : WV σ) : gC (wS σ) := by
  have yB : yq (wB σ) σ := fun a b x y => by
    unfold wB
    rw [su_n (by omega), su_n (by omega), su_n (by omega), su_n (by omega), su_n (by omega), su_n (by omega), su_n (by omega), su_n (by omega)]
  have g := fgA_ok (hW.eq yB) (hV.eq yB)
  have e19 : wS σ 19 = (fgA (wB σ)).1 := by
    funext b
    exact eg_19 _ _ b
  have e20 : wS σ 20 0 = (fgA (wB σ)).2 := eg_20 _ _
  have yS : yq (wS σ) (wB σ) := fun a b x y => eg_ne _ _ _ (by omega) (by omega)
  unfold gC
  rw [e19, e20]
  refine ⟨g.1, fun a ha => ⟨fun p hp l hl => ?_, fun x h1 h2 => ?_⟩⟩
  · rw [yS 1 0 (by decide) (by decide)] at ha
    rw [yS 2 _ (by decide) (by decide)] at hp
    rw [yS 4 _ (by decide) (by decide)] at hl
    have := (g.2 a ha).1 p hp l hl
    unfold cLim at this ⊢
    rw [yS 5 _ (by decide) (by decide), yS 6 _ (by decide) (by decide)]
    exact this
  · rw [yS 1 0 (by decide) (by decide)] at ha
    rw [yS 3 _ (by decide) (by decide)] at h2
    have := (g.2 a ha).2 x h1 h2
    unfold cTst fk at this ⊢
    rw [yS 11 _ (by decide) (by decide), yS 12 _ (by decide) (by decide), yS 13 _ (by decide) (by decide), yS 14 _ (by decide) (by decide)]
    exact this
/-- after a walk of the reference all states are good -/
theorem walk_AI {σ σ1 σ2 : mS} (hW : WY σ) (hV : WV σ) (hT : WT σ) (hc : canW σ) (h1 : stO (wS σ) σ1) (h2 : wkF 200 0 σ1 σ2) : AI σ1 ∧ AI σ2 := by
  have yS := wS_yq σ
  have hc2 : canW (wS σ) := by
    refine ⟨by rw [yS 1 0 (by decide) (by decide)]; exact hc.1, fun a ha => ?_⟩
    rw [yS 1 0 (by decide) (by decide)] at ha
    rw [yS 2 a (by decide) (by decide)]
    exact hc.2 a ha
  have a1 := stO_AI (hW.eq yS) (hV.eq yS) (WT_cg yS hT) (wS_gC hW hV) hc2 rfl h1
  exact ⟨a1, wkF_AI 200 0 a1 h2⟩
