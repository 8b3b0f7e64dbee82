/-! THE FIRST: zones of class and reference -/
theorem gRun_app2 {m : Nat} {L K : List Op} : ∀ {M M1 : iM}, gRun m (L ++ K) M → runM L M = some M1 → gRun m K M1 := by
  induction L with
  | nil => intro M M1 h e; cases e; exact h
  | cons o L ih =>
    intro M M1 h e
    have e2 : (match opM o M with | none => none | some N => runM L N) = some M1 := e
    cases ho : opM o M with
    | none => rw [ho] at e2; cases e2
    | some P => rw [ho] at e2; exact ih (h.2 P ho) e2
theorem sm11 (w : Int) : sm (sm 1 w) 1 = w := by rw [sm_one, one_sm]
/-- where all CLOCKS show 0, a LIMIT cuts all or nothing -/
theorem lim_ones : ∀ (L : List Op), (∀ o, o ∈ L → ∃ t : Nat × Nat × Int32, o = Sum.inl t ∧ t.1 < 4 ∧ t.2.1 < 4) → ∀ {M M1 : iM}, agr 5 M onesM → runM L M = some M1 → agr 5 M1 onesM := by
  intro L
  induction L with
  | nil => intro _ M M1 h e; cases e; exact h
  | cons o L ih =>
    intro hL M M1 h e
    obtain ⟨t, ho, h1, h2⟩ := hL o List.mem_cons_self
    have e2 : (match opM o M with | none => none | some N => runM L N) = some M1 := e
    have eo : opM o M = if sm t.2.2.toInt (M t.2.1 t.1) < 1 then none else some (sq M t.1 t.2.1 t.2.2.toInt) := by rw [ho]; rfl
    rw [h t.2.1 t.1 (by omega) (by omega)] at eo
    have one : sm t.2.2.toInt (onesM t.2.1 t.1) = t.2.2.toInt := sm_one _
    rw [one] at eo
    by_cases g : t.2.2.toInt < 1
    · rw [if_pos g] at eo; rw [eo] at e2; cases e2
    · rw [if_neg g] at eo
      rw [eo] at e2
      refine ih (fun o ho => hL o (List.mem_cons_of_mem _ ho)) (fun i j hi hj => ?_) e2
      unfold sq sqT
      rw [h i j hi hj, h i t.1 hi (by omega), h t.2.1 j (by omega) hj]
      show min 1 (sm (sm 1 t.2.2.toInt) 1) = 1
      rw [sm11]
      omega
theorem limL_inl {σ : mS} (hW : WY σ) (hV : WV σ) {p : Nat → Nat} (hp : ∀ a, a < N (σ 1 0) → p a < 6) : ∀ o, o ∈ limL σ p → ∃ t : Nat × Nat × Int32, o = Sum.inl t ∧ t.1 < 4 ∧ t.2.1 < 4 := by
  intro o ho
  have hv := limL_V hW hV hp o ho
  cases o with
  | inl t => exact ⟨t, rfl, hv.1, hv.2.1⟩
  | inr x =>
    exfalso
    unfold limL at ho
    obtain ⟨j, _, _, h1⟩ := itL_mem _ _ _ ho
    obtain ⟨l, _, _, h2⟩ := itL_mem _ _ _ h1
    simp at h2
section ST
variable {σ : mS}
theorem st_gRun (hW : WY σ) (hV : WV σ) (hC : gC σ) (hc : canW σ) : (∀ o, o ∈ arL σ pz0 → opV o) ∧ gRun 4 (arL σ pz0) onesM ∧ gRun 5 (arL σ pz0) onesM := by
  have hVo := arL_V hW hV (p := pz0) (fun a _ => by unfold pz0; omega)
  have hG : ¬ (σ 20 0 = 0) → ∀ o, o ∈ arL σ pz0 → opG (fun i => (σ 19 i).toInt) o := fun _ => arL_G hW hV hC (fun a ha => by
    have := hc.2 a ha
    unfold pz0
    exact this)
  have hP : zP (σ 20 0) 13000 (fun i => (σ 19 i).toInt) onesM onesM := ones_zP (by decide) _
  have np1 := np_arL σ pz0
  have zr := zP_run (g := fun i => (σ 19 i).toInt) hC.1.1 hVo hG (by omega) (by omega) hP
  exact ⟨hVo, zr.1, zr.2.1⟩
theorem zone_first (hW : WY σ) (hV : WV σ) (hC : gC σ) (hc : canW σ) {q0 : zQ} (h0 : q0.2 = 0) (ha : agr 4 (ci 4 q0.1) onesM) {g : Nat → Int32} {b8 : Int32} (h8 : b8 = σ 20 0) (hg : ¬ σ 20 0 = 0 → ∀ b, b < 4 → g b = σ 19 b) (Z0 : Nat → Int32) : ((qS σ Z0).2 = 1 ∧ (crunQ 4 (arL σ pz0) q0).2 = 1) ∨ ((qS σ Z0).2 = 0 ∧ (crunQ 4 (arL σ pz0) q0).2 = 0 ∧ (lgq b8 g (crunQ 4 (arL σ pz0) q0)).2 = 0 ∧ cagr 4 (lgq b8 g (crunQ 4 (arL σ pz0) q0)).1 (qS σ Z0).1) := by
  obtain ⟨hVo, g4, g5⟩ := st_gRun hW hV hC hc
  have cq := crunQ_is (n := 4) (by omega) (by omega) _ hVo h0 g4 ha
  rcases st_out hW hV hC hc Z0 Z0 with ⟨m1, m2⟩ | ⟨Nz, E, m1, m4, m5, m6, m7, m2, m9, m10, m11, m12⟩
  · rcases cq with ⟨c1, c2⟩ | ⟨N', c1, c2, c3⟩
    · exact Or.inl ⟨m2, c2⟩
    · rw [m1] at c1; cases c1
  · rcases cq with ⟨c1, c2⟩ | ⟨N', c1, c2, c3⟩
    · rw [m1] at c1; cases c1
    · rw [m1] at c1
      cases c1
      right
      generalize crunQ 4 (arL σ pz0) q0 = qf at c2 c3 ⊢
      unfold lgq
      by_cases hb : σ 20 0 = 0
      · rw [if_pos (h8.trans hb)]
        exact ⟨m4, c2, c2, cagr_of (c3.tr (m5 hb).symm)⟩
      · rw [if_neg (fun t => hb (h8.symm.trans t)), clg_cg (hg hb)]
        obtain ⟨Z, z1, z2⟩ := m6 hb
        have zi1 : zI 13101 (fun i => (σ 19 i).toInt) (zi Z) E := zI_cg z1.symm (m9.2.2 hb)
        have cl := clg_is (by omega) (by omega) hC.1.1 hC.1.2 m9.1 zi1 (f := qf.1) (cagr_of (c3.tr z1.symm))
        rw [z2]
        exact ⟨m4, c2, cl.1, cl.2⟩
theorem zone_firstE (hW : WY σ) (hV : WV σ) (hC : gC σ) (hc : canW σ) {qe : zQ} (h0 : qe.2 = 0) (ha : agr 5 (ci 5 qe.1) onesM) (Z0 Z1 : Nat → Int32) (hq : (qS σ Z0).2 = 0) : (crunQ 5 ((Sum.inr none : Op) :: limL σ pz0) qe).2 = 0 ∧ cagr 5 (crunQ 5 ((Sum.inr none : Op) :: limL σ pz0) qe).1 (qSe σ Z1).1 := by
  obtain ⟨hVo, g4, g5⟩ := st_gRun hW hV hC hc
  rcases st_out hW hV hC hc Z0 Z1 with ⟨m1, m2⟩ | ⟨Nz, E, m1, m4, m5, m6, m7, m2, m9, m10, m11, m12⟩
  · rw [m2] at hq; cases hq
  · have hV1 : ∀ o, o ∈ limL σ pz0 → opV o := limL_V hW hV (fun a _ => by unfold pz0; omega)
    have hV2 : ∀ o, o ∈ (Sum.inr none : Op) :: limL σ pz0 → opV o := fun o ho => hVo o (List.mem_append_right _ ho)
    have m2' := m2
    unfold arL at m2' g5
    rw [runM_app] at m2'
    cases hm : runM (limL σ pz0) onesM with
    | none => rw [hm] at m2'; cases m2'
    | some M1 =>
      rw [hm] at m2'
      replace m2' : runM ((Sum.inr none : Op) :: limL σ pz0) M1 = some E := m2'
      have a1 := lim_ones _ (limL_inl hW hV (p := pz0) (fun a _ => by unfold pz0; omega)) (fun _ _ _ _ => rfl) hm
      have g2 := gRun_cg (by omega) hV2 a1 (gRun_app2 g5 hm)
      rcases runM_cg (m := 5) (by omega) _ hV2 a1 with ⟨r1, r2⟩ | ⟨A1, A2, r1, r2, r3⟩
      · rw [m2'] at r1; cases r1
      · rw [m2'] at r1
        cases r1
        rcases crunQ_is (n := 5) (by omega) (by omega) _ hV2 h0 g2 ha with ⟨d1, d2⟩ | ⟨N', d1, d2, d3⟩
        · rw [r2] at d1; cases d1
        · rw [r2] at d1
          cases d1
          exact ⟨d2, cagr_of ((d3.tr r3.symm).tr m7.symm)⟩
end ST
