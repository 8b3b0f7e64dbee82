/-! THE REFERENCE: start, walk -/
def z1 (Z : Nat → Int32) : Nat → Int32 := fun i => if i < 25 then 1 else Z i
def pz0 : Nat → Nat := fun _ => 0
def qS (σ : mS) (Z0 : Nat → Int32) : zQ := if σ 20 0 = 0 then qar σ 4 pz0 (z1 Z0, 0) else qlt (σ 19) (qar σ 4 pz0 (z1 Z0, 0))
def qSe (σ : mS) (Z0 : Nat → Int32) : zQ := qar σ 5 pz0 (z1 Z0, 0)
def stS (σ : mS) (Zb Ze : Nat → Int32) : mS := fun s b =>
  if s = 22 then (if b = 0 then σ 22 0 + 1 else σ 22 b)
  else if s = 24 then (if b < 3 then (if b < N (σ 1 0) then J 0 else (-2 : Int32)) else σ 24 b)
  else if s = 25 then (if b < 25 then Zb b else σ 25 b)
  else if s = 26 then (if b < 25 then Ze b else σ 26 b)
  else if s = 27 then (if b = 0 then (-1 : Int32) else σ 27 b)
  else if s = 28 then (if b = 0 then 0 else σ 28 b)
  else if s = 29 then (if b = 0 then (-2 : Int32) else σ 29 b)
  else if s = 30 then (if b = 0 then 0 else σ 30 b)
  else if s = 32 then (if b = 0 then 0 else σ 32 b)
  else if s = 33 then (if b = 0 then hlp σ pz0 else σ 33 b)
  else σ s b
def stO (σ : mS) (σ' : mS) : Prop := (¬ (qS σ (σ 15)).2 = 0 → sx jk σ' σ) ∧ ((qS σ (σ 15)).2 = 0 → sx jk σ' (stS σ (qS σ (σ 15)).1 (qSe σ (qS σ (σ 15)).1).1))
def stT (n : Nat) (s : mS) (t : mL) : Option (Int32 × mS × mL) := (if s 17 0 = 0 then obd (Mo_add_f n 0 (((-1) : Int32)) 0 0 0 s t) (fun r6 => obd (Mo_allNull_f n 0 ((5 : Int32)) 0 r6.2.1 r6.2.2) (fun r7 => obd (Mo_arrive_f n ((1 : Int32)) r7.2.1 r7.2.2) (fun r8 => obd (Mo_keepExact_f n 0 ((0 : Int32)) 0 r8.2.1 r8.2.2) (fun r9 => (if xin ((0 : Int32)) 200 = true then bnd (su r9.2.1 32 (Int32.toNatClampNeg ((0 : Int32))) ((0 : Int32))) (fun s11 => some (0, s11, r9.2.2)) else none))))) else some (0, s, t))
section Start
variable {σ : mS} {τ : mL} {R : Int32 × mS × mL} {q : zQ}
theorem st_T (hW : WY σ) {x1 : Int32} : ∃ ρ, (∀ R, Ev (fun n => stT n (ez ρ (qS σ q.1)) τ) R → Ev (fun n => Mo_start_f n 0 x1 (ez σ q) τ) R) ∧ sx [16, 18, 38, 39] ρ σ ∧ ∀ i, i < N (σ 1 0) → ρ 38 i = J 0 := by
  have h1 := hW.1
  have hB : N (σ 1 0) ≤ 3 := h1.2
  let T0 : Nat → Int32 := fun i => if i < N (σ 1 0) then 0 else σ 38 i
  have s0 : sx [16, 18, 38, 39] (su (st σ 38 T0) 16 0 4) σ := (sx.su _ _ _ (by decide)).trans (sx.st _ _ (by decide))
  have y0 : yq (su (st σ 38 T0) 16 0 4) σ := s0.yq (by decide)
  have p38 : ∀ i, i < N (σ 1 0) → su (st σ 38 T0) 16 0 4 38 i = J 0 := fun i hi => by
    rw [su_n (by decide), st_eq]
    exact if_pos hi
  have E1 := arrive_q (σ := su (st σ 38 T0) 16 0 4) (τ := τ) (q := (z1 q.1, 0)) (m := 4) (p := pz0) (by omega) (by omega) (su_e _ _ _ _) (hW.eq y0) (fun i hi => ⟨p38 i (by rw [← y0 1 0 (by decide) (by decide)]; exact hi), by unfold pz0; omega⟩) 0
  rw [qar_cg y0, if_pos rfl] at E1
  let ρ : mS := su (su (st σ 38 T0) 16 0 4) 39 0 0
  have s2 : sx [16, 18, 38, 39] ρ σ := (sx.su _ _ _ (by decide)).trans s0
  refine ⟨ρ, fun R e => ?_, s2, fun i hi => by
    show su (su (st σ 38 T0) 16 0 4) 39 0 0 38 i = J 0
    rw [su_n (by decide)]
    exact p38 i hi⟩
  refine Ev.succ (fun n => Mo_start_e0 n _ _ _) ?_
  unfold Mo_start_t0
  have key := Ev.up (f := fun n i T => Mo_start_f n 2 (J i) (ez (st σ 38 T) q) τ) (R := R) (N (σ 1 0)) (fun i T => fu T i 0) (fun _ _ => True) (fun _ _ _ _ => trivial) (fun i T hi _ ee => by
    refine Ev.succ (fun n => Mo_start_e2 n _ _ _) ?_
    unfold Mo_start_t2
    refine Ev.neg (by rw [ez_ne _ _ _ (by decide) (by decide), st_ne _ (by decide)]; exact sml_nle h1 (by omega) hi) ?_
    have a2 : xin (J i) 3 = true := xin_J (by omega) (by omega)
    have b2 : Int32.toNatClampNeg (J i) = i := J_nat (by omega)
    have c1 : J i + 1 = J (i + 1) := J_add i 1
    simp only [a2, b2, c1, if_true, bnd]
    rw [ez_su _ _ _ _ (by decide) (by decide), su_st]
    exact ee) (N (σ 1 0)) 0 (σ 38) (by omega) trivial
  rw [st_id] at key
  refine key ?_
  rw [it_fu0 (fun _ => 0)]
  refine Ev.succ (fun n => Mo_start_e2 n _ _ _) ?_
  unfold Mo_start_t2
  refine Ev.pos (by rw [ez_ne _ _ _ (by decide) (by decide), st_ne _ (by decide)]; exact sml_le h1) ?_
  refine Ev.ob allNull_q ?_
  dsimp only
  refine Ev.ob E1 ?_
  dsimp only
  unfold qS at e
  have h20 : ez ρ (qar σ 4 pz0 (z1 q.1, 0)) 20 0 = σ 20 0 := by rw [ez_ne _ _ _ (by decide) (by decide), s2 20 0 (by decide)]
  by_cases hl : σ 20 0 = 0
  · rw [if_pos hl] at e
    refine Ev.pos (h20.trans hl) ?_
    exact e
  · rw [if_neg hl] at e
    refine Ev.neg (fun t => hl (h20.symm.trans t)) ?_
    have r16 : ρ 16 0 = J 4 := by
      show su (su (st σ 38 T0) 16 0 4) 39 0 0 16 0 = J 4
      rw [su_n (by decide), su_e]
      rfl
    have r19 : ρ 19 = σ 19 := by funext b; exact s2 19 b (by decide)
    refine Ev.ob (let_q r16) ?_
    dsimp only
    rw [r19]
    exact e
theorem start_q (hW : WY σ) (h22 : σ 22 0 = J 0) {x1 : Int32} : ∃ σ', Ev (fun n => Mo_start_f n 0 x1 (ez σ q) τ) (0, σ', τ) ∧ (¬ (qS σ q.1).2 = 0 → sx jk σ' σ) ∧ ((qS σ q.1).2 = 0 → sx jk σ' (stS σ (qS σ q.1).1 (qSe σ (qS σ q.1).1).1)) := by
  obtain ⟨ρ, T, s2, p2⟩ := st_T (q := q) (τ := τ) (x1 := x1) hW
  have y2 : yq ρ σ := s2.yq (by decide)
  have jq : ∀ (π : mS) (q' : zQ), sx jk (ez π q') π := fun π q' s b hsb => ez_ne π q' b (fun e => hsb (e ▸ by decide)) (fun e => hsb (e ▸ by decide))
  have sj : sx jk ρ σ := s2.mono (by decide)
  have n1 : ρ 1 0 = σ 1 0 := s2 1 0 (by decide)
  have n22 : ρ 22 0 = J 0 := (s2 22 0 (by decide)).trans h22
  by_cases hE : (qS σ q.1).2 = 0
  · let ρ2 : mS := adN ρ (qS σ q.1).1 0 ((-1) : Int32)
    have hadd := addN_q (σ := ρ) (τ := τ) (q := qS σ q.1) (x2 := 0) (x3 := 0) (x4 := 0) (k := 0) (par := ((-1) : Int32)) (by rw [n1]; exact hW.1) (fun i hi => by
      rw [n1] at hi
      rw [p2 i hi]
      exact sml_J (by omega) (by omega)) (by omega) n22 (by decide) (by decide)
    have yy : yq ρ2 σ := fun s b g1 g2 => by
      show adN ρ (qS σ q.1).1 0 ((-1) : Int32) s b = σ s b
      unfold adN ad5 ad3
      rw [su_n (by omega), su_n (by omega), su_n (by omega), su_n (by omega), st_ne _ (by omega), su_n (by omega), st_ne _ (by omega), su_n (by omega)]
      exact y2 s b g1 g2
    have q38 : ∀ i, ρ2 38 i = ρ 38 i := fun i => by
      show adN ρ (qS σ q.1).1 0 ((-1) : Int32) 38 i = ρ 38 i
      unfold adN ad5 ad3
      rw [su_n (by decide), su_n (by decide), su_n (by decide), su_n (by decide), st_ne _ (by decide), su_n (by decide), st_ne _ (by decide), su_n (by decide)]
    let ρ3 : mS := su ρ2 16 0 5
    have y3 : yq ρ3 σ := fun s b g1 g2 => by
      show su ρ2 16 0 5 s b = σ s b
      rw [su_n (by omega)]
      exact yy s b g1 g2
    have E5 := arrive_q (σ := ρ3) (τ := τ) (q := (z1 (qS σ q.1).1, 0)) (m := 5) (p := pz0) (by omega) (by omega) (su_e _ _ _ _) (hW.eq y3) (fun i hi => ⟨by
      show su ρ2 16 0 5 38 i = J 0
      rw [su_n (by decide), q38]
      exact p2 i (by rw [← y3 1 0 (by decide) (by decide)]; exact hi), by unfold pz0; omega⟩) 1
    rw [qar_cg y3] at E5
    let ρ4 : mS := su ρ3 39 0 (if (1 : Int32) = 0 then 0 else soonOf ((ql ρ3 5 pz0 (z1 (qS σ q.1).1, 0)).1 4))
    let ρ5 : mS := kx ρ4 (qSe σ (qS σ q.1).1).1 0
    refine ⟨ez (su ρ5 32 0 0) (qSe σ (qS σ q.1).1), T _ ?_, fun t => absurd hE t, fun _ => ?_⟩
    · unfold stT
      refine Ev.pos (by rw [ez_17]; exact hE) ?_
      refine Ev.ob hadd ?_
      dsimp only
      refine Ev.ob allNull_q ?_
      dsimp only
      refine Ev.ob E5 ?_
      dsimp only
      refine Ev.ob (keepExact_q (k := 0) (by omega)) ?_
      have a1 : xin (0 : Int32) 200 = true := by decide
      have b1 : Int32.toNatClampNeg (0 : Int32) = 0 := by decide
      simp only [a1, b1, if_true, bnd]
      rw [ez_su _ _ _ _ (by decide) (by decide)]
      exact Ev.ret
    · refine (jq _ _).trans (fun s b hsb => ?_)
      have nj : s ∉ [16, 18, 38, 39] := fun t => hsb (by simp at t; unfold jk; simp; omega)
      have ns16 : s ≠ 16 := fun t => nj (by rw [t]; decide)
      have ns39 : s ≠ 39 := fun t => nj (by rw [t]; decide)
      have g4 : ρ4 s b = ρ2 s b := by
        show su (su ρ2 16 0 5) 39 0 _ s b = ρ2 s b
        rw [su_n ns39, su_n ns16]
      have gk : s ≠ 26 → s ≠ 32 → su ρ5 32 0 0 s b = ρ2 s b := fun g1 g2 => by
        rw [su_n g2]
        show kx ρ4 _ 0 s b = ρ2 s b
        unfold kx
        rw [su_n g2, st_ne _ g1]
        exact g4
      have d2 : ρ2 s b = adN ρ (qS σ q.1).1 0 ((-1) : Int32) s b := rfl
      have o1 : ρ s b = σ s b := s2 s b nj
      unfold stS
      by_cases c22 : s = 22
      · rw [if_pos c22, gk (by omega) (by omega), d2]
        subst c22
        unfold adN ad5 ad3
        rw [su_n (by decide), su_n (by decide), su_n (by decide), su_n (by decide), st_ne _ (by decide), su_n (by decide), st_ne _ (by decide)]
        unfold su
        by_cases hb : b = 0
        · rw [if_pos ⟨rfl, hb⟩, if_pos hb, s2 22 0 (by decide)]
        · rw [if_neg (fun t => hb t.2), if_neg hb]
          exact o1
      rw [if_neg c22]
      by_cases c24 : s = 24
      · rw [if_pos c24, gk (by omega) (by omega), d2]
        subst c24
        unfold adN ad5 ad3
        rw [su_n (by decide), su_n (by decide), su_n (by decide), su_n (by decide), st_ne _ (by decide), su_n (by decide), st_eq]
        unfold at24
        rw [n1]
        by_cases hb : b < 3
        · rw [if_pos (show 3 * 0 ≤ b ∧ b < 3 * 0 + 3 by omega), if_pos hb]
          have e : b - 3 * 0 = b := by omega
          rw [e]
          by_cases hm : b < N (σ 1 0)
          · rw [if_pos hm, if_pos hm]
            exact p2 _ hm
          · rw [if_neg hm, if_neg hm]
        · rw [if_neg (show ¬ (3 * 0 ≤ b ∧ b < 3 * 0 + 3) by omega), if_neg hb]
          exact o1
      rw [if_neg c24]
      by_cases c25 : s = 25
      · rw [if_pos c25, gk (by omega) (by omega), d2]
        subst c25
        unfold adN ad5 ad3
        rw [su_n (by decide), su_n (by decide), su_n (by decide), su_n (by decide), st_eq]
        unfold zn25
        by_cases hb : b < 25
        · rw [if_pos (show 25 * 0 ≤ b ∧ b < 25 * 0 + 25 by omega), if_pos hb]
          have e : b - 25 * 0 = b := by omega
          rw [e]
        · rw [if_neg (show ¬ (25 * 0 ≤ b ∧ b < 25 * 0 + 25) by omega), if_neg hb]
          exact o1
      rw [if_neg c25]
      by_cases c26 : s = 26
      · rw [if_pos c26]
        subst c26
        rw [su_n (by decide)]
        show kx ρ4 _ 0 26 b = _
        unfold kx
        rw [su_n (by decide), st_eq]
        by_cases hb : b < 25
        · rw [if_pos (show 25 * 0 ≤ b ∧ b < 25 * 0 + 25 by omega), if_pos hb]
          have e : b - 25 * 0 = b := by omega
          rw [e]
        · rw [if_neg (show ¬ (25 * 0 ≤ b ∧ b < 25 * 0 + 25) by omega), if_neg hb, g4, d2]
          unfold adN ad5 ad3
          rw [su_n (by decide), su_n (by decide), su_n (by decide), su_n (by decide), st_ne _ (by decide), su_n (by decide), st_ne _ (by decide), su_n (by decide)]
          exact o1
      rw [if_neg c26]
      by_cases c27 : s = 27
      · rw [if_pos c27, gk (by omega) (by omega), d2]
        subst c27
        unfold adN ad5 ad3
        rw [su_n (by decide), su_n (by decide), su_n (by decide)]
        by_cases hb : b = 0
        · rw [if_pos hb, hb, su_e]
        · rw [if_neg hb]
          unfold su
          rw [if_neg (fun t => hb t.2), st_ne _ (by decide), if_neg (fun t => absurd t.1 (by decide)), st_ne _ (by decide), if_neg (fun t => absurd t.1 (by decide))]
          exact o1
      rw [if_neg c27]
      by_cases c28 : s = 28
      · rw [if_pos c28, gk (by omega) (by omega), d2]
        subst c28
        unfold adN ad5 ad3
        rw [su_n (by decide), su_n (by decide)]
        by_cases hb : b = 0
        · rw [if_pos hb, hb, su_e]
        · rw [if_neg hb]
          unfold su
          rw [if_neg (fun t => hb t.2), if_neg (fun t => absurd t.1 (by decide)), st_ne _ (by decide), if_neg (fun t => absurd t.1 (by decide)), st_ne _ (by decide), if_neg (fun t => absurd t.1 (by decide))]
          exact o1
      rw [if_neg c28]
      by_cases c29 : s = 29
      · rw [if_pos c29, gk (by omega) (by omega), d2]
        subst c29
        unfold adN ad5 ad3
        rw [su_n (by decide)]
        by_cases hb : b = 0
        · rw [if_pos hb, hb, su_e]
        · rw [if_neg hb]
          unfold su
          rw [if_neg (fun t => hb t.2), if_neg (fun t => absurd t.1 (by decide)), if_neg (fun t => absurd t.1 (by decide)), st_ne _ (by decide), if_neg (fun t => absurd t.1 (by decide)), st_ne _ (by decide), if_neg (fun t => absurd t.1 (by decide))]
          exact o1
      rw [if_neg c29]
      by_cases c30 : s = 30
      · rw [if_pos c30, gk (by omega) (by omega), d2]
        subst c30
        unfold adN
        by_cases hb : b = 0
        · rw [if_pos hb, hb, su_e]
        · rw [if_neg hb]
          unfold ad5 ad3 su
          rw [if_neg (fun t => hb t.2), if_neg (fun t => absurd t.1 (by decide)), if_neg (fun t => absurd t.1 (by decide)), if_neg (fun t => absurd t.1 (by decide)), st_ne _ (by decide), if_neg (fun t => absurd t.1 (by decide)), st_ne _ (by decide), if_neg (fun t => absurd t.1 (by decide))]
          exact o1
      rw [if_neg c30]
      by_cases c32 : s = 32
      · rw [if_pos c32]
        subst c32
        by_cases hb : b = 0
        · rw [if_pos hb, hb, su_e]
        · rw [if_neg hb]
          have e1 : su ρ5 32 0 0 32 b = ρ5 32 b := by unfold su; rw [if_neg (fun t => hb t.2)]
          have e2 : ρ5 32 b = ρ4 32 b := by
            show kx ρ4 _ 0 32 b = ρ4 32 b
            unfold kx su
            rw [if_neg (fun t => hb t.2), st_ne _ (by decide)]
          rw [e1, e2, g4, d2]
          unfold adN ad5 ad3
          rw [su_n (by decide), su_n (by decide), su_n (by decide), su_n (by decide), st_ne _ (by decide), su_n (by decide), st_ne _ (by decide), su_n (by decide)]
          exact o1
      rw [if_neg c32]
      by_cases c33 : s = 33
      · rw [if_pos c33, gk (by omega) (by omega), d2]
        subst c33
        unfold adN ad5 ad3
        rw [su_n (by decide), su_n (by decide), su_n (by decide), su_n (by decide), st_ne _ (by decide)]
        by_cases hb : b = 0
        · rw [if_pos hb, hb, su_e]
          exact hl_hlp y2 (fun i hi => ⟨p2 i hi, by unfold pz0; omega⟩)
        · rw [if_neg hb]
          unfold su
          rw [if_neg (fun t => hb t.2), st_ne _ (by decide), if_neg (fun t => absurd t.1 (by decide))]
          exact o1
      rw [if_neg c33, gk c26 c32, d2]
      unfold adN ad5 ad3
      rw [su_n c30, su_n c29, su_n c28, su_n c27, st_ne _ c25, su_n c33, st_ne _ c24, su_n c22]
      exact o1
  · refine ⟨ez ρ (qS σ q.1), T _ ?_, fun _ => (jq _ _).trans sj, fun t => absurd t hE⟩
    unfold stT
    exact Ev.neg (by rw [ez_17]; exact hE) Ev.ret
end Start
