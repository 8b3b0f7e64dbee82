/-! the class's wayFrom, tryTakers, lookAt -/
theorem mvF_split {k : Nat} {K : List Mv} : ∀ {L : List Mv} {σ π : mS}, mvF k (L ++ K) σ π → ∃ ρ, mvF k L σ ρ ∧ mvF k K ρ π := by
  intro L
  induction L with
  | nil => intro σ π h; exact ⟨σ, rfl, h⟩
  | cons v L ih =>
    intro σ π h
    by_cases g : σ 37 0 = 0
    · obtain ⟨σ1, a, b⟩ := h.1 g
      obtain ⟨ρ, c, e⟩ := ih b
      exact ⟨ρ, ⟨fun _ => ⟨σ1, a, c⟩, fun t => absurd g t⟩, e⟩
    · have e : π = σ := h.2 g
      rw [e]
      exact ⟨σ, ⟨fun t => absurd t g, fun _ => rfl⟩, mvF_spent g⟩
theorem mvF_dead {k : Nat} {L : List Mv} {σ π : mS} (h : mvF k L σ π) (g : ¬ σ 37 0 = 0) : π = σ := by
  cases L with
  | nil => exact h
  | cons v L => exact h.2 g
/-- a state of the walk, class and reference side by side; o the yard, a9 the state that is looked at -/
def SS (D : kD) (κ : kS) (ρ : mS) (z k o a9 : Nat) : Prop := YW D κ ρ ∧ FZ D κ z ∧ AI ρ ∧ CR κ ρ ∧ LK κ ρ k ∧ k < N (ρ 22 0) ∧ D.1 1 0 = o ∧ D.1 19 k = a9
theorem SS.next {D D' : kD} {κ κ' : kS} {ρ ρ' : mS} {z k o a9 c s : Nat} (h : SS D κ ρ z k o a9) (w : WS D κ z D' κ' ρ' c s) (l : LK κ' ρ' k) (hA : AI ρ') (hk : k < N (ρ' 22 0)) : SS D' κ' ρ' (z + c) k o a9 := by
  obtain ⟨h1, h2, h3, h4, h5, h6, h7, h8⟩ := h
  have hm : k < N (κ 3 0 0) := by have := h4.2.2.2.1; omega
  exact ⟨w.2.1, w.2.2.1, hA, w.2.2.2.2.2.1, l, hk, by rw [(w.1.1 1 0 h1.1.k1).1]; exact h7, by rw [(w.1.1 19 k (h1.1.2.2.2.2.1 k hm).1).1]; exact h8⟩
/-- how a piece of the walk ends -/
def fin (r : Int32) (ρ' : mS) : Prop := (r = 0 ∧ ¬ ρ' 37 0 = 0) ∨ (r = 1 ∧ ρ' 37 0 = 0)
section LOOK
variable {σ : mS} {k o a9 a w : Nat}
theorem kept.mE {ρ : mS} (hK : kept σ ρ) {v : Mv} (h : mvE σ v) : mvE ρ v := mvE_cg hK.1 h
theorem ss_wayFrom {D : kD} {κ : kS} {ρ : mS} {z : Nat} (S : SS D κ ρ z k o a9) (hK : kept σ ρ) (hk : k < N (σ 22 0)) {b v : Nat} (hb : b < N (σ 1 0)) (n : Nat) : (v < N (σ 3 b) → Ya_wayFrom_f n o (some a9) (J b) (J v) (rn D κ) = some (if σ 7 (12 * b + v) = σ 24 (3 * k + b) then some (D.1 16 (12 * b + v)) else none, rn D κ)) ∧ (N (σ 3 b) ≤ v → v < 12 → Ya_wayFrom_f n o (some a9) (J b) (J v) (rn D κ) = some (none, rn D κ)) := by
  obtain ⟨h, hF, hA, hC, hL, hk', rfl, rfl⟩ := S
  have e : ∀ s b, 1 ≤ s → s ≤ 14 → ρ s b = σ s b := fun s b h1 h2 => hK.1 s b h1 h2
  have hb' : b < N (ρ 1 0) := by rw [e 1 0 (by decide) (by decide)]; exact hb
  have hb3 : b < 3 := by have := h.2.2.1.2; omega
  have hm : k < N (κ 3 0 0) := by have := hC.2.2.2.1; omega
  have k19 := h.1.2.2.2.2.1 k hm
  refine ⟨fun hv => ?_, fun hv hv2 => ?_⟩
  · have hv' : v < N (ρ 3 b) := by rw [e 3 b (by decide) (by decide)]; exact hv
    have k16 := h.k16 hb' hv'
    have y := ((h.2.1.2 b hb').2.2 v hv').1
    unfold Ya_wayFrom_f
    simp only [rd1 h.1.k1, if_true, h.wa hb' hv', obd, bnd, oel, rd16 k16.1, rd19 k19.1, kra20 k19.2.1 hb3, y.1, (hC.2.2.2.2.2.1 k hk').1 b hb3, e 7 _ (by decide) (by decide), hK.2.2.2.2.2 k b hk hb3]
    by_cases g : σ 7 (12 * b + v) = σ 24 (3 * k + b)
    · rw [if_pos g, if_pos g]
    · rw [if_neg g, if_neg g]
  · have y := (h.2.1.2 b hb').1.2
    have s3 := (h.2.2.2.1 b hb3).2
    have wo := wayAt_op h.1 h.mc (by rw [h.2.1.1]; exact hb') (by rw [y]; exact s3) (y := J v) (fun p hp => by rw [y, e 3 b (by decide) (by decide)] at hp; intro t; rw [J_eq (by omega) (by have := s3.2; rw [e 3 b (by decide) (by decide)] at this; omega)] at t; omega)
    unfold Ya_wayFrom_f
    simp only [rd1 h.1.k1, if_true, wo, obd, bnd, oel]
theorem ss_move {D : kD} {κ : kS} {ρ ρ1 : mS} {z : Nat} (S : SS D κ ρ z k o a9) (hK : kept σ ρ) {v : Mv} (hv : mvE σ v) (hsp : ρ 37 0 = 0) (ho : mvO ρ k v ρ1) : ∃ D' κ' r c s, Ev (fun n => Ya_tryMove_f n o (some a9) (J v.1) (J v.2.1) (cY v) (cU v) (rn D κ) z) (r, rn D' κ', c, s) ∧ WS D κ z D' κ' ρ1 c s ∧ SS D' κ' ρ1 (z + c) k o a9 ∧ kept σ ρ1 ∧ fin r ρ1 := by
  have S' := S
  obtain ⟨h, hF, hA, hC, hL, hk', rfl, rfl⟩ := S
  have hv' := hK.mE hv
  obtain ⟨D', κ', r, c, s, ev, ws, lk, fi⟩ := tryMove_y h hF hA hC hL hk' hv' hsp ho
  have kp := mvO_kept hA.1 hk' (mvE_ok hA.1.1 hv') ho
  exact ⟨D', κ', r, c, s, ev, ws, S'.next ws lk (mvO_AI hA hk' hv' ho) (by have := kp.2.2.2.1; omega), hK.trans kp, fi⟩
theorem WS.rf {D : kD} {κ : kS} {ρ : mS} {z : Nat} (S : SS D κ ρ z k o a9) : WS D κ z D κ ρ 0 0 := ⟨Dx.rf D, S.1, S.2.1, by omega, Nat.le_refl _, S.2.2.2.1, kfr.rf κ⟩
theorem row_15 (hk : k < N (σ 22 0)) (ha : a < N (σ 1 0)) (hw : w < N (σ 3 a)) {b : Nat} (hb : b < N (σ 1 0)) (hba : b ≠ a) (hb12 : N (σ 3 b) ≤ 12) (hm3 : N (σ 1 0) ≤ 3) : ∀ d v (D : kD) (κ : kS) (z : Nat) (ρ ρ' : mS), v + d = 12 → SS D κ ρ z k o a9 → kept σ ρ → ρ 37 0 = 0 → mvF k (rowL σ k a w b (N (σ 3 b) - v) v) ρ ρ' → ∃ D' κ' c s, WS D κ z D' κ' ρ' c s ∧ SS D' κ' ρ' (z + c) k o a9 ∧ kept σ ρ' ∧ (¬ ρ' 37 0 = 0 → Ev (fun n => Ya_tryTakers_f n 15 o (some a9) (J a) (J w) (σ 9 (12 * a + w)) (J b) (J v) (rn D κ) z) (0, rn D' κ', c, s)) ∧ (ρ' 37 0 = 0 → ∀ r h c2 s2, Ev (fun n => Ya_tryTakers_f n 3 o (some a9) (J a) (J w) (σ 9 (12 * a + w)) (J (b + 1)) 0 (rn D' κ') (z + c)) (r, h, c2, s2) → Ev (fun n => Ya_tryTakers_f n 15 o (some a9) (J a) (J w) (σ 9 (12 * a + w)) (J b) (J v) (rn D κ) z) (r, h, c2 + c, s2 + s)) := by
  intro d
  have jb : ¬ (J b = J a) := by rw [J_eq (by omega) (by omega)]; exact hba
  induction d with
  | zero =>
    intro v D κ z ρ ρ' hv S hK hsp hF
    rw [show N (σ 3 b) - v = 0 by omega] at hF
    have e : ρ' = ρ := hF
    rw [e]
    refine ⟨D, κ, 0, 0, WS.rf S, S, hK, fun t => absurd hsp t, fun _ r h c2 s2 ev => ?_⟩
    refine Ev.succ (fun n => Ya_tryTakers_e15 n _ _ _ _ _ _ _ _ _) ?_
    unfold Ya_tryTakers_t15
    refine Ev.pos (by rw [J12, J_le (by omega) (by omega)]; omega) ?_
    rw [show J b + 1 = J (b + 1) from J_add b 1]
    exact ev
  | succ d ih =>
    intro v D κ z ρ ρ' hv S hK hsp hF
    have ev1 : J v + 1 = J (v + 1) := J_add v 1
    have n12 : ¬ ((12 : Int32) ≤ J v) := by rw [J12, J_le (by omega) (by omega)]; omega
    have k1 : kc (rn D κ) o 3 = true := by
      rw [← S.2.2.2.2.2.2.1]
      exact (rd1 S.1.1.k1).1
    -- nothing to try: go on
    have skip : ∀ (L : List Mv), mvF k (rowL σ k a w b (N (σ 3 b) - (v + 1)) (v + 1)) ρ ρ' → (∀ R, Ev (fun n => Ya_tryTakers_f n 15 o (some a9) (J a) (J w) (σ 9 (12 * a + w)) (J b) (J (v + 1)) (rn D κ) z) R → Ev (fun n => Ya_tryTakers_f n 15 o (some a9) (J a) (J w) (σ 9 (12 * a + w)) (J b) (J v) (rn D κ) z) R) → ∃ D' κ' c s, WS D κ z D' κ' ρ' c s ∧ SS D' κ' ρ' (z + c) k o a9 ∧ kept σ ρ' ∧ (¬ ρ' 37 0 = 0 → Ev (fun n => Ya_tryTakers_f n 15 o (some a9) (J a) (J w) (σ 9 (12 * a + w)) (J b) (J v) (rn D κ) z) (0, rn D' κ', c, s)) ∧ (ρ' 37 0 = 0 → ∀ r h c2 s2, Ev (fun n => Ya_tryTakers_f n 3 o (some a9) (J a) (J w) (σ 9 (12 * a + w)) (J (b + 1)) 0 (rn D' κ') (z + c)) (r, h, c2, s2) → Ev (fun n => Ya_tryTakers_f n 15 o (some a9) (J a) (J w) (σ 9 (12 * a + w)) (J b) (J v) (rn D κ) z) (r, h, c2 + c, s2 + s)) := fun _ hF' hs => by
      obtain ⟨D', κ', c, s, w1, w2, w3, w4, w5⟩ := ih (v + 1) D κ z ρ ρ' (by omega) S hK hsp hF'
      exact ⟨D', κ', c, s, w1, w2, w3, fun t => hs _ (w4 t), fun t r h c2 s2 e => hs _ (w5 t r h c2 s2 e)⟩
    by_cases gv : v < N (σ 3 b)
    · have wf := fun n => (ss_wayFrom S hK hk hb (v := v) n).1 gv
      rw [show N (σ 3 b) - v = (N (σ 3 b) - (v + 1)) + 1 by omega] at hF
      have hF2 : mvF k ((if cnd σ k (12 * a + w) b v then [(a, w, some (b, v))] else []) ++ rowL σ k a w b (N (σ 3 b) - (v + 1)) (v + 1)) ρ ρ' := hF
      by_cases g1 : σ 7 (12 * b + v) = σ 24 (3 * k + b)
      · have k16 := S.1.k16 (m := b) (w := v) (by rw [hK.1 1 0 (by decide) (by decide)]; exact hb) (by rw [hK.1 3 b (by decide) (by decide)]; exact gv)
        have y := ((S.1.2.1.2 b (by rw [hK.1 1 0 (by decide) (by decide)]; exact hb)).2.2 v (by rw [hK.1 3 b (by decide) (by decide)]; exact gv)).1.2.2.1
        rw [hK.1 9 _ (by decide) (by decide)] at y
        by_cases g2 : σ 9 (12 * b + v) = -(σ 9 (12 * a + w))
        · rw [if_pos (show cnd σ k (12 * a + w) b v from ⟨g1, g2⟩)] at hF2
          obtain ⟨ρ1, m1, m2⟩ := hF2.1 hsp
          have hmv : mvE σ (a, w, some (b, v)) := ⟨⟨ha, hw⟩, fun t ht => by cases ht; exact ⟨hb, gv⟩⟩
          obtain ⟨D1, κ1, r1, c1, s1, t1, t2, t3, t4, t5⟩ := ss_move S hK hmv hsp m1
          have step : ∀ (r : Int32) (h : xH) (c2 s2 : Nat), Ev (fun n => if r1 = 0 then some ((0 : Int32), rn D1 κ1, 0, 0) else Ya_tryTakers_f n 15 o (some a9) (J a) (J w) (σ 9 (12 * a + w)) (J b) (J (v + 1)) (rn D1 κ1) (z + c1)) (r, h, c2, s2) → Ev (fun n => Ya_tryTakers_f n 15 o (some a9) (J a) (J w) (σ 9 (12 * a + w)) (J b) (J v) (rn D κ) z) (r, h, c2 + c1, s2 + s1) := fun r h c2 s2 e => by
            refine Ev.succ (fun n => Ya_tryTakers_e15 n _ _ _ _ _ _ _ _ _) ?_
            unfold Ya_tryTakers_t15
            refine Ev.neg n12 (Ev.neg jb (Ev.pos k1 ?_))
            refine Ev.ob ⟨0, fun n _ => (wf n).trans (by rw [if_pos g1])⟩ (Ev.bn (Ev.oeS ?_))
            refine Ev.ob (Ev.cn (a := σ 9 (12 * b + v)) (by simp only [rd16 k16.1]; rw [y])) (Ev.pos g2 (Ev.pos k1 (Ev.ob t1 ?_)))
            rw [ev1]
            exact Ev.oad e
          rcases t5 with ⟨q1, q2⟩ | ⟨q1, q2⟩
          · have e' := mvF_dead m2 q2
            rw [e']
            refine ⟨D1, κ1, c1, s1, t2, t3, t4, fun _ => ?_, fun t => absurd t q2⟩
            have := step 0 (rn D1 κ1) 0 0 (Ev.pos q1 Ev.ret)
            rw [Nat.zero_add, Nat.zero_add] at this
            exact this
          · obtain ⟨D', κ', c, s, w1, w2, w3, w4, w5⟩ := ih (v + 1) D1 κ1 (z + c1) ρ1 ρ' (by omega) t3 t4 q2 m2
            have r1n : ¬ r1 = 0 := by rw [q1]; decide
            refine ⟨D', κ', c1 + c, s1 + s, t2.tr w1, by rw [← Nat.add_assoc]; exact w2, w3, fun t => ?_, fun t r h c2 s2 e => ?_⟩
            · have := step 0 (rn D' κ') c s (Ev.neg r1n (w4 t))
              rw [Nat.add_comm c c1, Nat.add_comm s s1] at this
              exact this
            · rw [← Nat.add_assoc] at e
              have := step r h (c2 + c) (s2 + s) (Ev.neg r1n (w5 t r h c2 s2 e))
              rw [show c2 + (c1 + c) = c2 + c + c1 by omega, show s2 + (s1 + s) = s2 + s + s1 by omega]
              exact this
        · rw [if_neg (fun t => g2 t.2)] at hF2
          refine skip [] hF2 (fun R e => ?_)
          refine Ev.succ (fun n => Ya_tryTakers_e15 n _ _ _ _ _ _ _ _ _) ?_
          unfold Ya_tryTakers_t15
          refine Ev.neg n12 (Ev.neg jb (Ev.pos k1 ?_))
          refine Ev.ob ⟨0, fun n _ => (wf n).trans (by rw [if_pos g1])⟩ (Ev.bn (Ev.oeS ?_))
          refine Ev.ob (Ev.cn (a := σ 9 (12 * b + v)) (by simp only [rd16 k16.1]; rw [y])) (Ev.neg g2 ?_)
          rw [ev1]
          exact e
      · rw [if_neg (fun t => g1 t.1)] at hF2
        refine skip [] hF2 (fun R e => ?_)
        refine Ev.succ (fun n => Ya_tryTakers_e15 n _ _ _ _ _ _ _ _ _) ?_
        unfold Ya_tryTakers_t15
        refine Ev.neg n12 (Ev.neg jb (Ev.pos k1 ?_))
        refine Ev.ob (a := (none, rn D κ)) ⟨0, fun n _ => (wf n).trans (by rw [if_neg g1])⟩ (Ev.bn (Ev.oeN ?_))
        rw [ev1]
        exact e
    · have wf := fun n => (ss_wayFrom S hK hk hb (v := v) n).2 (by omega) (by omega)
      rw [show N (σ 3 b) - v = N (σ 3 b) - (v + 1) by omega] at hF
      have hF2 : mvF k (rowL σ k a w b (N (σ 3 b) - (v + 1)) (v + 1)) ρ ρ' := by
        rw [show N (σ 3 b) - (v + 1) = 0 by omega] at hF ⊢
        exact hF
      refine skip [] hF2 (fun R e => ?_)
      refine Ev.succ (fun n => Ya_tryTakers_e15 n _ _ _ _ _ _ _ _ _) ?_
      unfold Ya_tryTakers_t15
      refine Ev.neg n12 (Ev.neg jb (Ev.pos k1 ?_))
      refine Ev.ob ⟨0, fun n _ => wf n⟩ (Ev.bn (Ev.oeN ?_))
      rw [ev1]
      exact e
end LOOK
