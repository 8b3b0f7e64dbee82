/-! the class's tryTakers and lookAt -/
section LOOKA
variable {σ : mS} {k o a9 a w : Nat}
theorem SS.kc {D : kD} {κ : kS} {ρ : mS} {z : Nat} (S : SS D κ ρ z k o a9) : kc (rn D κ) o 3 = true := by
  rw [← S.2.2.2.2.2.2.1]
  exact (rd1 S.1.1.k1).1
theorem SS.mc {D : kD} {κ : kS} {ρ : mS} {z : Nat} (S : SS D κ ρ z k o a9) (hK : kept σ ρ) : gi (rn D κ) o 3 1 = some (σ 1 0) := by
  rw [← S.2.2.2.2.2.2.1, ← hK.1 1 0 (by decide) (by decide), ← S.1.2.1.1]
  exact (rd1 S.1.1.k1).2.1
theorem tak_3 (hW : WY σ) (hk : k < N (σ 22 0)) (ha : a < N (σ 1 0)) (hw : w < N (σ 3 a)) : ∀ d b (D : kD) (κ : kS) (z : Nat) (ρ ρ' : mS), b + d = N (σ 1 0) → SS D κ ρ z k o a9 → kept σ ρ → ρ 37 0 = 0 → mvF k (takL σ k a w d b) ρ ρ' → ∃ D' κ' r c s, Ev (fun n => Ya_tryTakers_f n 3 o (some a9) (J a) (J w) (σ 9 (12 * a + w)) (J b) 0 (rn D κ) z) (r, rn D' κ', c, s) ∧ WS D κ z D' κ' ρ' c s ∧ SS D' κ' ρ' (z + c) k o a9 ∧ kept σ ρ' ∧ fin r ρ' := by
  have hm := hW.1
  have hm3 := hW.1.2
  intro d
  induction d with
  | zero =>
    intro b D κ z ρ ρ' hb S hK hsp hF
    have e : ρ' = ρ := hF
    rw [e]
    refine ⟨D, κ, 1, 0, 0, ?_, WS.rf S, S, hK, Or.inr ⟨rfl, hsp⟩⟩
    refine Ev.succ (fun n => Ya_tryTakers_e3 n _ _ _ _ _ _ _ _ _) ?_
    unfold Ya_tryTakers_t3
    refine Ev.ob (Ev.cn (S.mc hK)) (Ev.pos ?_ Ev.ret)
    rw [hm.1, J_le (by omega) (by omega)]
    omega
  | succ d ih =>
    intro b D κ z ρ ρ' hb S hK hsp hF
    have b12 : N (σ 3 b) ≤ 12 := (hW.2.1 b (by omega)).2.2
    have hF2 : mvF k ((if b = a then [] else rowL σ k a w b (N (σ 3 b)) 0) ++ takL σ k a w d (b + 1)) ρ ρ' := hF
    have pre : ∀ R, Ev (fun n => Ya_tryTakers_f n 15 o (some a9) (J a) (J w) (σ 9 (12 * a + w)) (J b) (J 0) (rn D κ) z) R → Ev (fun n => Ya_tryTakers_f n 3 o (some a9) (J a) (J w) (σ 9 (12 * a + w)) (J b) 0 (rn D κ) z) R := fun R e => by
      refine Ev.succ (fun n => Ya_tryTakers_e3 n _ _ _ _ _ _ _ _ _) ?_
      unfold Ya_tryTakers_t3
      exact Ev.ob (Ev.cn (S.mc hK)) (Ev.neg (sml_nle hm (by omega) (by omega)) e)
    by_cases g : b = a
    · rw [if_pos g] at hF2
      obtain ⟨D', κ', r, c, s, e1, e2⟩ := ih (b + 1) D κ z ρ ρ' (by omega) S hK hsp hF2
      refine ⟨D', κ', r, c, s, pre _ ?_, e2⟩
      refine Ev.succ (fun n => Ya_tryTakers_e15 n _ _ _ _ _ _ _ _ _) ?_
      unfold Ya_tryTakers_t15
      refine Ev.neg (by decide) (Ev.pos (by rw [g]) ?_)
      rw [show J b + 1 = J (b + 1) from J_add b 1]
      exact e1
    · rw [if_neg g] at hF2
      obtain ⟨ρ1, f1, f2⟩ := mvF_split hF2
      obtain ⟨D1, κ1, c1, s1, w1, w2, w3, w4, w5⟩ := row_15 hk ha hw (show b < N (σ 1 0) by omega) g b12 hm3 12 0 D κ z ρ ρ1 (by omega) S hK hsp f1
      by_cases q : ρ1 37 0 = 0
      · obtain ⟨D', κ', r, c, s, e1, e2, e3, e4, e5⟩ := ih (b + 1) D1 κ1 (z + c1) ρ1 ρ' (by omega) w2 w3 q f2
        refine ⟨D', κ', r, c1 + c, s1 + s, ?_, w1.tr e2, by rw [← Nat.add_assoc]; exact e3, e4, e5⟩
        have := pre _ (w5 q _ _ _ _ e1)
        rw [Nat.add_comm c c1, Nat.add_comm s s1] at this
        exact this
      · rw [mvF_dead f2 q]
        exact ⟨D1, κ1, 0, c1, s1, pre _ (w4 q), w1, w2, w3, Or.inl ⟨rfl, q⟩⟩
/-- what one WAY brings -/
theorem way_y (hW : WY σ) (hk : k < N (σ 22 0)) (ha : a < N (σ 1 0)) (hw : w < N (σ 3 a)) {D : kD} {κ : kS} {z : Nat} {ρ ρ' : mS} (S : SS D κ ρ z k o a9) (hK : kept σ ρ) (hsp : ρ 37 0 = 0) (hF : mvF k (wayL σ k a w) ρ ρ') : ∃ D' κ' c s, WS D κ z D' κ' ρ' c s ∧ SS D' κ' ρ' (z + c) k o a9 ∧ kept σ ρ' ∧ (¬ ρ' 37 0 = 0 → Ev (fun n => Ya_lookAt_f n 12 o (some a9) (J a) (J w) (rn D κ) z) (0, rn D' κ', c, s)) ∧ (ρ' 37 0 = 0 → ∀ r h c2 s2, Ev (fun n => Ya_lookAt_f n 12 o (some a9) (J a) (J (w + 1)) (rn D' κ') (z + c)) (r, h, c2, s2) → Ev (fun n => Ya_lookAt_f n 12 o (some a9) (J a) (J w) (rn D κ) z) (r, h, c2 + c, s2 + s)) := by
  have hm3 := hW.1.2
  have w12 : N (σ 3 a) ≤ 12 := (hW.2.1 a (by omega)).2.2
  have ev1 : J w + 1 = J (w + 1) := J_add w 1
  have n12 : ¬ ((12 : Int32) ≤ J w) := by rw [J12, J_le (by omega) (by omega)]; omega
  have wf := fun n => (ss_wayFrom S hK hk ha (v := w) n).1 hw
  have skip : ρ' = ρ → (∀ R, Ev (fun n => Ya_lookAt_f n 12 o (some a9) (J a) (J (w + 1)) (rn D κ) z) R → Ev (fun n => Ya_lookAt_f n 12 o (some a9) (J a) (J w) (rn D κ) z) R) → ∃ D' κ' c s, WS D κ z D' κ' ρ' c s ∧ SS D' κ' ρ' (z + c) k o a9 ∧ kept σ ρ' ∧ (¬ ρ' 37 0 = 0 → Ev (fun n => Ya_lookAt_f n 12 o (some a9) (J a) (J w) (rn D κ) z) (0, rn D' κ', c, s)) ∧ (ρ' 37 0 = 0 → ∀ r h c2 s2, Ev (fun n => Ya_lookAt_f n 12 o (some a9) (J a) (J (w + 1)) (rn D' κ') (z + c)) (r, h, c2, s2) → Ev (fun n => Ya_lookAt_f n 12 o (some a9) (J a) (J w) (rn D κ) z) (r, h, c2 + c, s2 + s)) := fun e hs => by
    rw [e]
    exact ⟨D, κ, 0, 0, WS.rf S, S, hK, fun t => absurd hsp t, fun _ r h c2 s2 ev => hs _ ev⟩
  unfold wayL at hF
  by_cases g1 : σ 7 (12 * a + w) = σ 24 (3 * k + a)
  · have k16 := S.1.k16 (m := a) (w := w) (by rw [hK.1 1 0 (by decide) (by decide)]; exact ha) (by rw [hK.1 3 a (by decide) (by decide)]; exact hw)
    have y := ((S.1.2.1.2 a (by rw [hK.1 1 0 (by decide) (by decide)]; exact ha)).2.2 w (by rw [hK.1 3 a (by decide) (by decide)]; exact hw)).1.2.2.1
    rw [hK.1 9 _ (by decide) (by decide)] at y
    have gw : gi (rn D κ) (D.1 16 (12 * a + w)) 7 2 = some (σ 9 (12 * a + w)) := by simp only [rd16 k16.1]; rw [y]
    by_cases g2 : 0 ≤ σ 9 (12 * a + w)
    · rw [if_pos ⟨g1, g2⟩] at hF
      -- either way: a piece with its end
      have piece : ∃ D1 κ1 r1 c1 s1, WS D κ z D1 κ1 ρ' c1 s1 ∧ SS D1 κ1 ρ' (z + c1) k o a9 ∧ kept σ ρ' ∧ fin r1 ρ' ∧ ∀ (r : Int32) (h : xH) (c2 s2 : Nat), Ev (fun n => if r1 = 0 then some ((0 : Int32), rn D1 κ1, 0, 0) else Ya_lookAt_f n 12 o (some a9) (J a) (J (w + 1)) (rn D1 κ1) (z + c1)) (r, h, c2, s2) → Ev (fun n => Ya_lookAt_f n 12 o (some a9) (J a) (J w) (rn D κ) z) (r, h, c2 + c1, s2 + s1) := by
        by_cases g3 : σ 9 (12 * a + w) = 0
        · rw [if_pos g3] at hF
          obtain ⟨ρ1, m1, m2⟩ := hF.1 hsp
          have e' : ρ' = ρ1 := m2
          rw [e']
          have hmv : mvE σ (a, w, none) := ⟨⟨ha, hw⟩, fun t ht => by cases ht⟩
          obtain ⟨D1, κ1, r1, c1, s1, t1, t2, t3, t4, t5⟩ := ss_move S hK hmv hsp m1
          refine ⟨D1, κ1, r1, c1, s1, t2, t3, t4, t5, fun r h c2 s2 e => ?_⟩
          refine Ev.succ (fun n => Ya_lookAt_e12 n _ _ _ _ _ _) ?_
          unfold Ya_lookAt_t12
          refine Ev.neg n12 (Ev.pos S.kc ?_)
          refine Ev.ob (a := (some (D.1 16 (12 * a + w)), rn D κ)) ⟨0, fun n _ => (wf n).trans (by rw [if_pos g1])⟩ (Ev.bn (Ev.oeS ?_))
          refine Ev.ob (Ev.cn gw) (Ev.pos g2 (Ev.ob (Ev.cn gw) (Ev.pos g3 (Ev.pos S.kc (Ev.ob t1 ?_)))))
          rw [ev1]
          exact Ev.oad e
        · rw [if_neg g3] at hF
          obtain ⟨D1, κ1, r1, c1, s1, t1, t2, t3, t4, t5⟩ := tak_3 hW hk ha hw (N (σ 1 0)) 0 D κ z ρ ρ' (by omega) S hK hsp hF
          refine ⟨D1, κ1, r1, c1, s1, t2, t3, t4, t5, fun r h c2 s2 e => ?_⟩
          refine Ev.succ (fun n => Ya_lookAt_e12 n _ _ _ _ _ _) ?_
          unfold Ya_lookAt_t12
          refine Ev.neg n12 (Ev.pos S.kc ?_)
          refine Ev.ob (a := (some (D.1 16 (12 * a + w)), rn D κ)) ⟨0, fun n _ => (wf n).trans (by rw [if_pos g1])⟩ (Ev.bn (Ev.oeS ?_))
          have t0 : Ev (fun n => Ya_tryTakers_f n 0 o (some a9) (J a) (J w) (σ 9 (12 * a + w)) 0 0 (rn D κ) z) (r1, rn D1 κ1, c1, s1) := by
            refine Ev.succ (fun n => Ya_tryTakers_e0 n _ _ _ _ _ _ _ _ _) ?_
            unfold Ya_tryTakers_t0
            exact t1
          refine Ev.ob (Ev.cn gw) (Ev.pos g2 (Ev.ob (Ev.cn gw) (Ev.neg g3 (Ev.ob (Ev.cn gw) (Ev.pos S.kc (Ev.ob t0 ?_))))))
          rw [ev1]
          exact Ev.oad e
      obtain ⟨D1, κ1, r1, c1, s1, t2, t3, t4, t5, step⟩ := piece
      rcases t5 with ⟨q1, q2⟩ | ⟨q1, q2⟩
      · refine ⟨D1, κ1, c1, s1, t2, t3, t4, fun _ => ?_, fun t => absurd t q2⟩
        have := step 0 (rn D1 κ1) 0 0 (Ev.pos q1 Ev.ret)
        rw [Nat.zero_add, Nat.zero_add] at this
        exact this
      · exact ⟨D1, κ1, c1, s1, t2, t3, t4, fun t => absurd q2 t, fun _ r h c2 s2 e => step r h c2 s2 (Ev.neg (by rw [q1]; decide) e)⟩
    · rw [if_neg (fun t => g2 t.2)] at hF
      refine skip hF (fun R e => ?_)
      refine Ev.succ (fun n => Ya_lookAt_e12 n _ _ _ _ _ _) ?_
      unfold Ya_lookAt_t12
      refine Ev.neg n12 (Ev.pos S.kc ?_)
      refine Ev.ob (a := (some (D.1 16 (12 * a + w)), rn D κ)) ⟨0, fun n _ => (wf n).trans (by rw [if_pos g1])⟩ (Ev.bn (Ev.oeS ?_))
      refine Ev.ob (Ev.cn gw) (Ev.neg g2 ?_)
      rw [ev1]
      exact e
  · rw [if_neg (fun t => g1 t.1)] at hF
    refine skip hF (fun R e => ?_)
    refine Ev.succ (fun n => Ya_lookAt_e12 n _ _ _ _ _ _) ?_
    unfold Ya_lookAt_t12
    refine Ev.neg n12 (Ev.pos S.kc ?_)
    refine Ev.ob (a := (none, rn D κ)) ⟨0, fun n _ => (wf n).trans (by rw [if_neg g1])⟩ (Ev.bn (Ev.oeN ?_))
    rw [ev1]
    exact e
theorem lkc_12 (hW : WY σ) (hk : k < N (σ 22 0)) (ha : a < N (σ 1 0)) : ∀ d w (D : kD) (κ : kS) (z : Nat) (ρ ρ' : mS), w + d = 12 → SS D κ ρ z k o a9 → kept σ ρ → ρ 37 0 = 0 → mvF k (lkR σ k a (N (σ 3 a) - w) w) ρ ρ' → ∃ D' κ' c s, WS D κ z D' κ' ρ' c s ∧ SS D' κ' ρ' (z + c) k o a9 ∧ kept σ ρ' ∧ (¬ ρ' 37 0 = 0 → Ev (fun n => Ya_lookAt_f n 12 o (some a9) (J a) (J w) (rn D κ) z) (0, rn D' κ', c, s)) ∧ (ρ' 37 0 = 0 → ∀ r h c2 s2, Ev (fun n => Ya_lookAt_f n 2 o (some a9) (J (a + 1)) 0 (rn D' κ') (z + c)) (r, h, c2, s2) → Ev (fun n => Ya_lookAt_f n 12 o (some a9) (J a) (J w) (rn D κ) z) (r, h, c2 + c, s2 + s)) := by
  have hm3 := hW.1.2
  have w12 : N (σ 3 a) ≤ 12 := (hW.2.1 a (by omega)).2.2
  intro d
  induction d with
  | zero =>
    intro w D κ z ρ ρ' hw S hK hsp hF
    rw [show N (σ 3 a) - w = 0 by omega] at hF
    have e : ρ' = ρ := hF
    rw [e]
    refine ⟨D, κ, 0, 0, WS.rf S, S, hK, fun t => absurd hsp t, fun _ r h c2 s2 ev => ?_⟩
    refine Ev.succ (fun n => Ya_lookAt_e12 n _ _ _ _ _ _) ?_
    unfold Ya_lookAt_t12
    refine Ev.pos (by rw [J12, J_le (by omega) (by omega)]; omega) ?_
    rw [show J a + 1 = J (a + 1) from J_add a 1]
    exact ev
  | succ d ih =>
    intro w D κ z ρ ρ' hw S hK hsp hF
    by_cases gw : w < N (σ 3 a)
    · rw [show N (σ 3 a) - w = (N (σ 3 a) - (w + 1)) + 1 by omega] at hF
      have hF2 : mvF k (wayL σ k a w ++ lkR σ k a (N (σ 3 a) - (w + 1)) (w + 1)) ρ ρ' := hF
      obtain ⟨ρ1, f1, f2⟩ := mvF_split hF2
      obtain ⟨D1, κ1, c1, s1, w1, w2, w3, w4, w5⟩ := way_y hW hk ha gw S hK hsp f1
      by_cases q : ρ1 37 0 = 0
      · obtain ⟨D', κ', c, s, e1, e2, e3, e4, e5⟩ := ih (w + 1) D1 κ1 (z + c1) ρ1 ρ' (by omega) w2 w3 q f2
        refine ⟨D', κ', c1 + c, s1 + s, w1.tr e1, by rw [← Nat.add_assoc]; exact e2, e3, fun t => ?_, fun t r h c2 s2 ev => ?_⟩
        · have := w5 q _ _ _ _ (e4 t)
          rw [Nat.add_comm c c1, Nat.add_comm s s1] at this
          exact this
        · rw [← Nat.add_assoc] at ev
          have := w5 q _ _ _ _ (e5 t r h c2 s2 ev)
          rw [show c2 + (c1 + c) = c2 + c + c1 by omega, show s2 + (s1 + s) = s2 + s + s1 by omega]
          exact this
      · rw [mvF_dead f2 q]
        exact ⟨D1, κ1, c1, s1, w1, w2, w3, w4, fun t => absurd t q⟩
    · have wf := fun n => (ss_wayFrom S hK hk ha (v := w) n).2 (by omega) (by omega)
      have hF2 : mvF k (lkR σ k a (N (σ 3 a) - (w + 1)) (w + 1)) ρ ρ' := by
        rw [show N (σ 3 a) - (w + 1) = 0 by omega]
        rw [show N (σ 3 a) - w = 0 by omega] at hF
        exact hF
      obtain ⟨D', κ', c, s, e1, e2, e3, e4, e5⟩ := ih (w + 1) D κ z ρ ρ' (by omega) S hK hsp hF2
      have st : ∀ R, Ev (fun n => Ya_lookAt_f n 12 o (some a9) (J a) (J (w + 1)) (rn D κ) z) R → Ev (fun n => Ya_lookAt_f n 12 o (some a9) (J a) (J w) (rn D κ) z) R := fun R e => by
        refine Ev.succ (fun n => Ya_lookAt_e12 n _ _ _ _ _ _) ?_
        unfold Ya_lookAt_t12
        refine Ev.neg (by rw [J12, J_le (by omega) (by omega)]; omega) (Ev.pos S.kc ?_)
        refine Ev.ob ⟨0, fun n _ => wf n⟩ (Ev.bn (Ev.oeN ?_))
        rw [show J w + 1 = J (w + 1) from J_add w 1]
        exact e
      exact ⟨D', κ', c, s, e1, e2, e3, fun t => st _ (e4 t), fun t r h c2 s2 ev => st _ (e5 t r h c2 s2 ev)⟩
/-- LOOKED AT to the last -/
def kLE (κ : kS) (k : Nat) : kS := ku (ku (ku κ 1 0 4 (κ 1 0 4 + 1)) 1 0 5 (κ 1 0 5 + κ 19 k 7)) 1 0 6 (κ 1 0 6 + κ 19 k 8)
theorem lkc_2 (hW : WY σ) (hk : k < N (σ 22 0)) : ∀ d a (D : kD) (κ : kS) (z : Nat) (ρ ρ' : mS), a + d = N (σ 1 0) → SS D κ ρ z k o a9 → kept σ ρ → ρ 37 0 = 0 → mvF k (lkL σ k d a) ρ ρ' → ∃ D' κ' c s, WS D κ z D' κ' ρ' c s ∧ SS D' κ' ρ' (z + c) k o a9 ∧ kept σ ρ' ∧ (¬ ρ' 37 0 = 0 → Ev (fun n => Ya_lookAt_f n 2 o (some a9) (J a) 0 (rn D κ) z) (0, rn D' κ', c, s)) ∧ (ρ' 37 0 = 0 → Ev (fun n => Ya_lookAt_f n 2 o (some a9) (J a) 0 (rn D κ) z) (1, rn D' (kLE κ' k), c, s)) := by
  have hm := hW.1
  have hm3 := hW.1.2
  intro d
  induction d with
  | zero =>
    intro a D κ z ρ ρ' ha S hK hsp hF
    have e : ρ' = ρ := hF
    rw [e]
    refine ⟨D, κ, 0, 0, WS.rf S, S, hK, fun t => absurd hsp t, fun _ => ?_⟩
    have hmade : k < N (κ 3 0 0) := by have := S.2.2.2.1.2.2.2.1; have := S.2.2.2.2.2.1; omega
    have k19 := (S.1.1.2.2.2.2.1 k hmade).1
    have k1 := S.1.1.k1
    have hD := S.1.1.1
    have mcq := S.mc hK
    obtain ⟨-, -, -, -, -, -, rfl, rfl⟩ := S
    refine Ev.succ (fun n => Ya_lookAt_e2 n _ _ _ _ _ _) ?_
    unfold Ya_lookAt_t2
    refine Ev.ob (Ev.cn mcq) (Ev.pos (by rw [hm.1, J_le (by omega) (by omega)]; omega) ?_)
    simp only [obd, rd1 k1, rd19 k19, rw1_4 hD k1, rw1_5 hD k1, rw1_6 hD k1]
    have e1 : kLE κ k = ku (ku (ku κ 1 0 4 (κ 1 0 4 + 1)) 1 0 5 (ku κ 1 0 4 (κ 1 0 4 + 1) 1 0 5 + ku κ 1 0 4 (κ 1 0 4 + 1) 19 k 7)) 1 0 6 (ku (ku κ 1 0 4 (κ 1 0 4 + 1)) 1 0 5 (ku κ 1 0 4 (κ 1 0 4 + 1) 1 0 5 + ku κ 1 0 4 (κ 1 0 4 + 1) 19 k 7) 1 0 6 + ku (ku κ 1 0 4 (κ 1 0 4 + 1)) 1 0 5 (ku κ 1 0 4 (κ 1 0 4 + 1) 1 0 5 + ku κ 1 0 4 (κ 1 0 4 + 1) 19 k 7) 19 k 8) := by
      unfold kLE
      rw [ku_k (show (19 : Nat) ≠ 1 by decide), ku_k (show (19 : Nat) ≠ 1 by decide), ku_k (show (19 : Nat) ≠ 1 by decide), ku_e κ 1 0 4, fu_n (show (5 : Nat) ≠ 4 by decide), ku_e (ku κ 1 0 4 (κ 1 0 4 + 1)) 1 0 5, fu_n (show (6 : Nat) ≠ 5 by decide), ku_e κ 1 0 4, fu_n (show (6 : Nat) ≠ 4 by decide)]
    rw [e1]
    exact Ev.ret
  | succ d ih =>
    intro a D κ z ρ ρ' ha S hK hsp hF
    have hF2 : mvF k (lkR σ k a (N (σ 3 a)) 0 ++ lkL σ k d (a + 1)) ρ ρ' := hF
    obtain ⟨ρ1, f1, f2⟩ := mvF_split hF2
    obtain ⟨D1, κ1, c1, s1, w1, w2, w3, w4, w5⟩ := lkc_12 hW hk (show a < N (σ 1 0) by omega) 12 0 D κ z ρ ρ1 (by omega) S hK hsp f1
    have pre : ∀ R, Ev (fun n => Ya_lookAt_f n 12 o (some a9) (J a) (J 0) (rn D κ) z) R → Ev (fun n => Ya_lookAt_f n 2 o (some a9) (J a) 0 (rn D κ) z) R := fun R e => by
      refine Ev.succ (fun n => Ya_lookAt_e2 n _ _ _ _ _ _) ?_
      unfold Ya_lookAt_t2
      exact Ev.ob (Ev.cn (S.mc hK)) (Ev.neg (sml_nle hm (by omega) (by omega)) e)
    by_cases q : ρ1 37 0 = 0
    · obtain ⟨D', κ', c, s, e1, e2, e3, e4, e5⟩ := ih (a + 1) D1 κ1 (z + c1) ρ1 ρ' (by omega) w2 w3 q f2
      refine ⟨D', κ', c1 + c, s1 + s, w1.tr e1, by rw [← Nat.add_assoc]; exact e2, e3, fun t => ?_, fun t => ?_⟩
      · have := pre _ (w5 q _ _ _ _ (e4 t))
        rw [Nat.add_comm c c1, Nat.add_comm s s1] at this
        exact this
      · have := pre _ (w5 q _ _ _ _ (e5 t))
        rw [Nat.add_comm c c1, Nat.add_comm s s1] at this
        exact this
    · rw [mvF_dead f2 q]
      exact ⟨D1, κ1, c1, s1, w1, w2, w3, fun t => pre _ (w4 t), fun t => absurd t q⟩
end LOOKA
