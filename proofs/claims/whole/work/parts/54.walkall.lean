/-! the invariant of a walk, kept by every move -/
def AI (σ : mS) : Prop := RI σ ∧ WV σ ∧ WT σ ∧ gC σ ∧ (∀ j a, j < N (σ 22 0) → a < N (σ 1 0) → N (σ 24 (3 * j + a)) < N (σ 2 a)) ∧ ∀ k, k < N (σ 22 0) → zP (σ 20 0) (lk k) (gI σ) (zz σ k) (ze σ k)
theorem zz_cg {σ ρ : mS} (k : Nat) (h : ∀ b, b < 25 → σ 25 (25 * k + b) = ρ 25 (25 * k + b)) : agr 5 (zz σ k) (zz ρ k) := fun i j hi hj => by
  unfold zz zi
  dsimp only
  rw [h (5 * i + j) (by omega)]
theorem ze_cg {σ ρ : mS} (k : Nat) (h : ∀ b, b < 25 → σ 26 (25 * k + b) = ρ 26 (25 * k + b)) : agr 5 (ze σ k) (ze ρ k) := fun i j hi hj => by
  unfold ze zi
  dsimp only
  rw [h (5 * i + j) (by omega)]
theorem agr.sub {m n : Nat} {M N : iM} (h : agr m M N) (hn : n ≤ m) : agr n M N := fun i j hi hj => h i j (by omega) (by omega)
theorem gC_cg {σ ρ : mS} (e : yq σ ρ) (h19 : ∀ b, σ 19 b = ρ 19 b) (h20 : σ 20 0 = ρ 20 0) (h : gC ρ) : gC σ := by
  have e19 : σ 19 = ρ 19 := funext h19
  unfold gC at h ⊢
  rw [e19, h20, e 1 0 (by decide) (by decide)]
  refine ⟨h.1, fun a ha => ⟨fun p hp l hl => ?_, fun x h1 h2 => ?_⟩⟩
  · rw [e 2 _ (by decide) (by decide)] at hp
    rw [e 4 _ (by decide) (by decide)] at hl
    have := (h.2 a ha).1 p hp l hl
    unfold cLim at this ⊢
    rw [e 5 _ (by decide) (by decide), e 6 _ (by decide) (by decide)]
    exact this
  · rw [e 3 _ (by decide) (by decide)] at h2
    have := (h.2 a ha).2 x h1 h2
    unfold cTst fk at this ⊢
    rw [e 11 _ (by decide) (by decide), e 12 _ (by decide) (by decide), e 13 _ (by decide) (by decide), e 14 _ (by decide) (by decide)]
    exact this
theorem WT_cg {σ ρ : mS} (e : yq σ ρ) (h : WT ρ) : WT σ := fun a w ha hw => by
  rw [e 1 0 (by decide) (by decide)] at ha
  rw [e 3 _ (by decide) (by decide)] at hw
  rw [e 8 _ (by decide) (by decide), e 2 _ (by decide) (by decide)]
  exact h a w ha hw
theorem szq_agr {S : Nat → Int32} {k : Nat} {Z : Nat → Int32} : agr 5 (zi (szq S k Z)) (zi (fun b => S (25 * k + b))) := fun i j hi hj => by
  unfold zi szq
  rw [if_pos (by omega)]
theorem runM_app (L K : List Op) : ∀ M, runM (L ++ K) M = match runM L M with | none => none | some N => runM K N := by
  induction L with
  | nil => intro M; rfl
  | cons o L ih =>
    intro M
    show (match opM o M with | none => none | some N => runM (L ++ K) N) = match (match opM o M with | none => none | some N => runM L N) with | none => none | some N => runM K N
    cases opM o M with
    | none => rfl
    | some N => exact ih N
theorem gRun_app {m : Nat} {L K : List Op} : ∀ {M : iM}, gRun m (L ++ K) M → gRun m L M := by
  induction L with
  | nil => intro M _; exact trivial
  | cons o L ih => intro M h; exact ⟨h.1, fun N hN => ih (h.2 N hN)⟩
/-- the first part of a move: tests, sets, limits -/
def mvA (σ : mS) (v : Mv) (p : Nat → Nat) : List Op := goL σ v ++ limL σ p
theorem mvOps_A (σ : mS) (v : Mv) (p : Nat → Nat) : mvOps σ v p = mvA σ v p ++ ((Sum.inr none : Op) :: limL σ p) := by
  unfold mvOps mvA arL
  rw [List.append_assoc]
theorem mPX_in {σ : mS} (hA : AI σ) {k : Nat} (hk : k < N (σ 22 0)) {v : Mv} (hv : mvE σ v) {i : Nat} (hi : i < N (σ 1 0)) : mPX σ k v i < N (σ 2 i) := by
  have h0 : mP0 σ k i < N (σ 2 i) := hA.2.2.2.2.1 k i hk hi
  obtain ⟨a, w, o⟩ := v
  have hto := hA.2.2.1 a w hv.1.1 hv.1.2
  cases o with
  | none =>
    show upp (mP0 σ k) a (N (σ 8 (12 * a + w))) i < N (σ 2 i)
    unfold upp
    split
    · rename_i t; rw [t]; exact hto
    · exact h0
  | some t =>
    have g := hv.2 t rfl
    have htb := hA.2.2.1 t.1 t.2 g.1 g.2
    show upp (upp (mP0 σ k) a (N (σ 8 (12 * a + w)))) t.1 (N (σ 8 (12 * t.1 + t.2))) i < N (σ 2 i)
    unfold upp
    split
    · rename_i u; rw [u]; exact htb
    · split
      · rename_i u; rw [u]; exact hto
      · exact h0
theorem lk_le {k : Nat} (hk : k < 200) : 13000 ≤ lk k ∧ lk k + 101 ≤ 40000 := by
  unfold lk
  omega
/-- all that is known of a move from a good state -/
theorem mv_out {σ : mS} (hA : AI σ) {k : Nat} (hk : k < N (σ 22 0)) {v : Mv} (hv : mvE σ v) (Z0 Z1 : Nat → Int32) : (runM (mvOps σ v (mPX σ k v)) (zz σ k) = none ∧ (qB σ k (mPX σ k v) (mGZ σ v) Z0).2 = 1) ∨ ∃ Nz E E1, runM (mvOps σ v (mPX σ k v)) (zz σ k) = some Nz ∧ runM (mvOps σ v (mPX σ k v)) (ze σ k) = some E ∧ runM (mvA σ v (mPX σ k v)) (ze σ k) = some E1 ∧ (qB σ k (mPX σ k v) (mGZ σ v) Z0).2 = 0 ∧ (σ 20 0 = 0 → agr 4 (zi (qB σ k (mPX σ k v) (mGZ σ v) Z0).1) Nz) ∧ (¬ (σ 20 0 = 0) → ∃ Z, agr 4 (zi Z) Nz ∧ (qB σ k (mPX σ k v) (mGZ σ v) Z0).1 = cl 4 (lt (σ 19) Z)) ∧ agr 5 (zi (qE σ k (mPX σ k v) (mGZ σ v) Z1).1) E ∧ ((ql σ 5 (mPX σ k v) (mGZ σ v 5 (szq (σ 26) k Z1, 0))).1 4).toInt = E1 0 4 ∧ zP (σ 20 0) (lk k + 101) (gI σ) Nz E ∧ zP (σ 20 0) (lk k + 101) (gI σ) (zi (qB σ k (mPX σ k v) (mGZ σ v) Z0).1) E ∧ gRun 4 (mvOps σ v (mPX σ k v)) (zz σ k) ∧ gRun 5 (mvOps σ v (mPX σ k v)) (ze σ k) := by
  have hR := hA.1
  have hs := hR.2.1.2
  have hk2 : k < 200 := by omega
  have ok := mvE_ok hR.1 hv
  have hV := mvOps_V hR.1 hA.2.1 ok (p := mPX σ k v) (fun a ha => mPX_lt hR hk ok ha)
  have hG : ¬ (σ 20 0 = 0) → ∀ o, o ∈ mvOps σ v (mPX σ k v) → opG (fun i => (σ 19 i).toInt) o := fun hl => mvOps_G hR.1 hA.2.1 hA.2.2.2.1 hl hv (fun a ha => mPX_in hA hk hv ha)
  have hgB := hA.2.2.2.1.1
  have hP := hA.2.2.2.2.2 k hk
  have l1 := lk_le hk2
  have np1 := np_mvOps σ v (mPX σ k v)
  have zr := zP_run (g := fun i => (σ 19 i).toInt) hgB.1 hV hG (by omega) (by omega) hP
  have rr := ref_run (gg := σ 19) hgB.1 hgB.2 hV hG l1.1 (by omega) hP (Z := szq (σ 25) k Z0) (W := szq (σ 26) k Z1) (szq_agr.sub (by omega)) szq_agr
  have eB : qB σ k (mPX σ k v) (mGZ σ v) Z0 = qLet (σ 20 0) (σ 19) (runQ 4 (mvOps σ v (mPX σ k v)) (szq (σ 25) k Z0, 0)) := by
    unfold qB qLet
    rw [mv_run]
  have eE : qE σ k (mPX σ k v) (mGZ σ v) Z1 = runQ 5 (mvOps σ v (mPX σ k v)) (szq (σ 26) k Z1, 0) := by
    unfold qE
    rw [mv_run]
  rw [eB, eE]
  rcases rr with ⟨a, _, c⟩ | ⟨Nz, E, a1, a2, a3, a4, a5, a6, a7, a8, a9⟩
  · exact Or.inl ⟨a, c⟩
  · right
    have hV1 : ∀ o, o ∈ mvA σ v (mPX σ k v) → opV o := fun o ho => hV o (by rw [mvOps_A]; exact List.mem_append_left _ ho)
    have g1 : gRun 5 (mvA σ v (mPX σ k v)) (ze σ k) := by
      have := zr.2.1
      rw [mvOps_A] at this
      exact gRun_app this
    have split1 : ∃ E1, runM (mvA σ v (mPX σ k v)) (ze σ k) = some E1 := by
      have t := a2
      rw [mvOps_A, runM_app] at t
      cases hm : runM (mvA σ v (mPX σ k v)) (ze σ k) with
      | none => rw [hm] at t; cases t
      | some E1 => exact ⟨E1, rfl⟩
    obtain ⟨E1, hE1⟩ := split1
    have r4 : ((ql σ 5 (mPX σ k v) (mGZ σ v 5 (szq (σ 26) k Z1, 0))).1 4).toInt = E1 0 4 := by
      have e : ql σ 5 (mPX σ k v) (mGZ σ v 5 (szq (σ 26) k Z1, 0)) = runQ 5 (mvA σ v (mPX σ k v)) (szq (σ 26) k Z1, 0) := by
        unfold mvA
        rw [runQ_app, ql_run, mGZ_run]
      rw [e]
      rcases runQ_is (m := 5) (by omega) (by omega) _ hV1 (q := (szq (σ 26) k Z1, 0)) rfl g1 (szq_agr : agr 5 (zi (szq (σ 26) k Z1)) (ze σ k)) with ⟨t, _⟩ | ⟨E', f1, f2, f3⟩
      · rw [hE1] at t; cases t
      · rw [hE1] at f1
        cases f1
        exact f3 0 4 (by omega) (by omega)
    rw [np1] at a8 a9
    refine ⟨Nz, E, E1, a1, a2, hE1, a5, fun hb => ?_, fun hb => ?_, a7, r4, a8, a9, zr.1, zr.2.1⟩
    · unfold qLet
      rw [if_pos hb]
      exact a4
    · refine ⟨(runQ 4 (mvOps σ v (mPX σ k v)) (szq (σ 25) k Z0, 0)).1, a4, ?_⟩
      unfold qLet qlt
      rw [if_neg hb, if_pos a3]
      rfl
theorem AI_sx {σ ρ : mS} (s : sx jk σ ρ) (h : AI ρ) : AI σ := by
  obtain ⟨h1, h2, h3, h4, h5, h6⟩ := h
  have y : yq σ ρ := s.yq (by decide)
  have e22 : σ 22 0 = ρ 22 0 := s 22 0 (by decide)
  have e20 : σ 20 0 = ρ 20 0 := s 20 0 (by decide)
  have e1 : σ 1 0 = ρ 1 0 := s 1 0 (by decide)
  have eg : gI σ = gI ρ := by
    funext i
    unfold gI
    rw [s 19 i (by decide)]
  refine ⟨⟨h1.1.eq y, by rw [e22]; exact h1.2.1, fun j i hj hi => ?_⟩, h2.eq y, WT_cg y h3, gC_cg y (fun b => s 19 b (by decide)) e20 h4, fun j a hj ha => ?_, fun k hk => ?_⟩
  · rw [e22] at hj
    rw [e1] at hi
    rw [s 24 _ (by decide)]
    exact h1.2.2 j i hj hi
  · rw [e22] at hj
    rw [e1] at ha
    rw [s 24 _ (by decide), s 2 _ (by decide)]
    exact h5 j a hj ha
  · rw [e22] at hk
    rw [e20, eg]
    exact zP_cg ((zz_cg k (fun b _ => (s 25 _ (by decide)).symm)).sub (by omega)) (ze_cg k (fun b _ => (s 26 _ (by decide)).symm)) (h6 k hk)
/-- slots that neither the yard nor the states' zones and places live in -/
theorem AI_su {σ : mS} (h : AI σ) {s : Nat} (i : Nat) (v : Int32) (h14 : 14 < s) (h19 : s ≠ 19) (h20 : s ≠ 20) (h22 : s ≠ 22) (h24 : s ≠ 24) (h25 : s ≠ 25) (h26 : s ≠ 26) : AI (su σ s i v) := by
  obtain ⟨h1, h2, h3, h4, h5, h6⟩ := h
  have e : ∀ a b, a ≠ s → su σ s i v a b = σ a b := fun a b hne => su_n hne
  have y : yq (su σ s i v) σ := fun a b _ hb => e a b (by omega)
  have eg : gI (su σ s i v) = gI σ := by
    funext j
    unfold gI
    rw [e 19 j (Ne.symm h19)]
  refine ⟨⟨h1.1.eq y, by rw [e 22 0 (Ne.symm h22)]; exact h1.2.1, fun j i hj hi => ?_⟩, h2.eq y, WT_cg y h3, gC_cg y (fun b => e 19 b (Ne.symm h19)) (e 20 0 (Ne.symm h20)) h4, fun j a hj ha => ?_, fun k hk => ?_⟩
  · rw [e 22 0 (Ne.symm h22)] at hj
    rw [e 1 0 (by omega)] at hi
    rw [e 24 _ (Ne.symm h24)]
    exact h1.2.2 j i hj hi
  · rw [e 22 0 (Ne.symm h22)] at hj
    rw [e 1 0 (by omega)] at ha
    rw [e 24 _ (Ne.symm h24), e 2 _ (by omega)]
    exact h5 j a hj ha
  · rw [e 22 0 (Ne.symm h22)] at hk
    rw [e 20 0 (Ne.symm h20), eg]
    exact zP_cg ((zz_cg k (fun b _ => (e 25 _ (Ne.symm h25)).symm)).sub (by omega)) (ze_cg k (fun b _ => (e 26 _ (Ne.symm h26)).symm)) (h6 k hk)
theorem mvO_AI {σ σ' : mS} (hA : AI σ) {k : Nat} (hk : k < N (σ 22 0)) {v : Mv} (hv : mvE σ v) (h : mvO σ k v σ') : AI σ' := by
  have hR := hA.1
  have ok := mvE_ok hR.1 hv
  have hN := hR.2.1.2
  unfold mvO tmO at h
  obtain ⟨c1, c2, c3, c4⟩ := h
  by_cases hE : (qB σ k (mPX σ k v) (mGZ σ v) (σ 15)).2 = 0
  · by_cases hS : seenP σ (mPX σ k v) (qB σ k (mPX σ k v) (mGZ σ v) (σ 15)).1
    · exact AI_sx (c2 hE hS) (AI_su (AI_su hA 0 _ (by decide) (by decide) (by decide) (by decide) (by decide) (by decide) (by decide)) 0 _ (by decide) (by decide) (by decide) (by decide) (by decide) (by decide) (by decide))
    · by_cases h2 : σ 22 0 = 200
      · exact AI_sx (c3 hE hS h2) (AI_su (AI_su hA 0 _ (by decide) (by decide) (by decide) (by decide) (by decide) (by decide) (by decide)) 0 _ (by decide) (by decide) (by decide) (by decide) (by decide) (by decide) (by decide))
      · have hx : N (σ 22 0) < 200 := by
          rcases Nat.lt_or_ge (N (σ 22 0)) 200 with h | h
          · exact h
          · exfalso
            apply h2
            have e : N (σ 22 0) = 200 := by omega
            have := hR.2.1.1
            rw [e] at this
            exact this
        have kp := mvO_kept hR hk ok (σ' := σ') ⟨c1, c2, c3, c4⟩
        have s := c4 hE hS h2
        rcases mv_out hA hk hv (σ 15) (qB σ k (mPX σ k v) (mGZ σ v) (σ 15)).1 with ⟨_, t⟩ | ⟨Nz, E, E1, _, _, _, _, _, _, a7, _, _, a9, _, _⟩
        · rw [hE] at t
          exact absurd t (by decide)
        · generalize hqB : (qB σ k (mPX σ k v) (mGZ σ v) (σ 15)).1 = Zb at s a9 a7
          generalize hqE : (qE σ k (mPX σ k v) (mGZ σ v) Zb).1 = Ze at s a7
          have e22 : N (σ' 22 0) = N (σ 22 0) + 1 := by
            rw [s 22 0 (by decide)]
            show N (σ 22 0 + 1) = _
            have := hR.2.1.1
            have e : J (N (σ 22 0)) + 1 = J (N (σ 22 0) + 1) := J_add _ 1
            rw [← this] at e
            rw [e]
            exact J_nat (by omega)
          have eg : gI σ' = gI σ := by
            funext i
            unfold gI
            rw [kp.2.1 i]
          have e1 : σ' 1 0 = σ 1 0 := kp.1 1 0 (by decide) (by decide)
          refine ⟨kp.2.2.2.2.1, hA.2.1.eq kp.1, WT_cg kp.1 hA.2.2.1, gC_cg kp.1 kp.2.1 kp.2.2.1 hA.2.2.2.1, fun j a hj ha => ?_, fun j hj => ?_⟩
          · rw [e22] at hj
            rw [e1] at ha
            have hm3 := hR.1.1.2
            rw [kp.1 2 a (by decide) (by decide), s 24 _ (by decide)]
            show N (if 3 * N (σ 22 0) ≤ 3 * j + a ∧ 3 * j + a < 3 * N (σ 22 0) + 3 then (if 3 * j + a - 3 * N (σ 22 0) < N (σ 1 0) then J (mPX σ k v (3 * j + a - 3 * N (σ 22 0))) else (-2 : Int32)) else σ 24 (3 * j + a)) < N (σ 2 a)
            by_cases hjx : j = N (σ 22 0)
            · have e : 3 * j + a - 3 * N (σ 22 0) = a := by omega
              have l6 := mPX_lt hR hk ok ha
              rw [if_pos (by omega), e, if_pos ha, show N (J (mPX σ k v a)) = mPX σ k v a from J_nat (by omega)]
              exact mPX_in hA hk hv ha
            · rw [if_neg (by omega)]
              exact hA.2.2.2.2.1 j a (by omega) ha
          · rw [e22] at hj
            rw [kp.2.2.1, eg]
            by_cases hjx : j = N (σ 22 0)
            · have ez1 : agr 5 (zi Zb) (zz σ' j) := fun a b ha hb => by
                unfold zz zi
                dsimp only
                rw [s 25 _ (by decide)]
                show _ = (if 25 * N (σ 22 0) ≤ 25 * j + (5 * a + b) ∧ 25 * j + (5 * a + b) < 25 * N (σ 22 0) + 25 then Zb (25 * j + (5 * a + b) - 25 * N (σ 22 0)) else σ 25 (25 * j + (5 * a + b))).toInt
                rw [if_pos (by omega), show 25 * j + (5 * a + b) - 25 * N (σ 22 0) = 5 * a + b by omega]
              have ee1 : agr 5 (zi Ze) (ze σ' j) := fun a b ha hb => by
                unfold ze zi
                dsimp only
                rw [s 26 _ (by decide)]
                show _ = (if 25 * N (σ 22 0) ≤ 25 * j + (5 * a + b) ∧ 25 * j + (5 * a + b) < 25 * N (σ 22 0) + 25 then Ze (25 * j + (5 * a + b) - 25 * N (σ 22 0)) else σ 26 (25 * j + (5 * a + b))).toInt
                rw [if_pos (by omega), show 25 * j + (5 * a + b) - 25 * N (σ 22 0) = 5 * a + b by omega]
              have p := zP_cg (ez1.sub (show 4 ≤ 5 by omega)) (fun a b ha hb => (a7 a b ha hb).symm.trans (ee1 a b ha hb)) a9
              exact zP_mono p (by unfold lk; omega)
            · have hz : ∀ b, b < 25 → σ 25 (25 * j + b) = σ' 25 (25 * j + b) := fun b hb => by
                rw [s 25 _ (by decide)]
                show _ = if 25 * N (σ 22 0) ≤ 25 * j + b ∧ 25 * j + b < 25 * N (σ 22 0) + 25 then _ else σ 25 (25 * j + b)
                rw [if_neg (by omega)]
              have he : ∀ b, b < 25 → σ 26 (25 * j + b) = σ' 26 (25 * j + b) := fun b hb => by
                rw [s 26 _ (by decide)]
                show _ = if 25 * N (σ 22 0) ≤ 25 * j + b ∧ 25 * j + b < 25 * N (σ 22 0) + 25 then _ else σ 26 (25 * j + b)
                rw [if_neg (by omega)]
              exact zP_cg ((zz_cg j hz).sub (by omega)) (ze_cg j he) (hA.2.2.2.2.2 j (by omega))
  · exact AI_sx (c1 hE) hA
