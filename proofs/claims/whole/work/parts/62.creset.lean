/-! THE CLASS's reset, isBroken, close -/
abbrev sb (c : Int32) (j : Nat) : Prop := 0 < j ∧ j < 4 ∧ bt c j
theorem isSet_c (k : Nat) (c : Int32) {j : Nat} (hj : j < 2147483648) (H : xH) : Zo_isSet_f k c (J j) H = some ((if sb c j then 1 else 0), H) := by
  unfold Zo_isSet_f
  by_cases h0 : j = 0
  · rw [if_pos (by rw [J0, J_le hj (by omega)]; omega), if_neg (by omega)]
  · rw [if_neg (by rw [J0, J_le hj (by omega)]; omega)]
    by_cases h4 : 4 ≤ j
    · rw [if_pos (by rw [J4, J_le (by omega) hj]; exact h4), if_neg (by omega)]
    · rw [if_neg (by rw [J4, J_le (by omega) hj]; exact h4)]
      by_cases hb : bt c j
      · rw [if_pos hb, if_pos ⟨by omega, by omega, hb⟩]
      · rw [if_neg hb, if_neg (fun t => hb t.2.2)]
def cr1 (n : Nat) (c : Int32) (i j : Nat) (f : Nat → Int32) : Nat → Int32 := fu (fu f (i * n + j) (if sb c j then 1 else f (0 * n + j))) (j * n + i) (if sb c j then 1 else (fu f (i * n + j) (if sb c j then 1 else f (0 * n + j))) (j * n + 0))
def cr2 (n : Nat) (c : Int32) (i : Nat) (f : Nat → Int32) : Nat → Int32 := if sb c i then it (cr1 n c i) 0 n f else f
def crs (n : Nat) (c : Int32) (f : Nat → Int32) : Nat → Int32 := it (cr2 n c) 1 3 f
section CR
variable {h : xH} {o b n : Nat} {f : Nat → Int32} {e : Int32} {R : Int32 × xH}
theorem reset_20 (hob : o ≠ b) (hn4 : 4 ≤ n) (hn : n ≤ 5) {i : Nat} (hi : i < 4) {c : Int32} (ee : Ev (fun k => Zo_reset_f k 2 o c (J (i + 1)) 0 (hz h o b n (it (cr1 n c i) 0 n f) e)) R) : Ev (fun k => Zo_reset_f k 20 o c (J i) (J 0) (hz h o b n f e)) R := by
  have hnn : n * n ≤ 25 := Nat.mul_le_mul hn hn
  refine Ev.up (f := fun k j f => Zo_reset_f k 20 o c (J i) (J j) (hz h o b n f e)) n (cr1 n c i) (fun _ _ => True) (fun _ _ _ _ => trivial) (fun j f hj _ e2 => ?_) n 0 f (by omega) trivial ?_
  · refine Ev.succ (fun k => Zo_reset_e20 k _ _ _ _ _) ?_
    unfold Zo_reset_t20
    have z0 : (0 : Int32) = J 0 := rfl
    have a1 : ∀ k F, Zo_at_f k o (0 : Int32) (J j) (hz h o b n F e) = some (F (0 * n + j), hz h o b n F e) := fun k F => at_c hob hn (show 0 < n by omega) hj k
    have a2 : ∀ k F, Zo_at_f k o (J j) (0 : Int32) (hz h o b n F e) = some (F (j * n + 0), hz h o b n F e) := fun k F => at_c hob hn hj (show 0 < n by omega) k
    have p1 : ∀ F x, pa (hz h o b n F e) b 0 (J i * J n + J j) x = some (hz h o b n (fu F (i * n + j) x) e) := fun F x => by
      rw [J_mul, J_add]
      exact hz_pa (ix_lt (by omega) hj) (by omega) x
    have p2 : ∀ F x, pa (hz h o b n F e) b 0 (J j * J n + J i) x = some (hz h o b n (fu F (j * n + i) x) e) := fun F x => by
      rw [J_mul, J_add]
      exact hz_pa (ix_lt hj (by omega)) (by omega) x
    simp only [hz_size hob, hz_bounds hob, hz_kc hob, isSet_c _ c (show j < 2147483648 by omega), obd, a1, a2, p1, p2, if_true]
    refine Ev.neg (by rw [J_le (by omega) (by omega)]; omega) ?_
    rw [show J j + 1 = J (j + 1) from J_add j 1]
    unfold cr1 at e2
    by_cases hs : sb c j
    · simp only [if_pos hs] at e2 ⊢
      exact Ev.neg (by decide) (Ev.neg (by decide) e2)
    · simp only [if_neg hs] at e2 ⊢
      exact Ev.pos (by trivial) (Ev.pos (by trivial) e2)
  · refine Ev.succ (fun k => Zo_reset_e20 k _ _ _ _ _) ?_
    unfold Zo_reset_t20
    rw [hz_size hob]
    dsimp only [obd]
    refine Ev.pos (by rw [J_le (by omega) (by omega)]; omega) ?_
    rw [show J i + 1 = J (i + 1) from J_add i 1]
    exact ee
theorem reset_c (hob : o ≠ b) (hn4 : 4 ≤ n) (hn : n ≤ 5) {c x2 x3 : Int32} : Ev (fun k => Zo_reset_f k 0 o c x2 x3 (hz h o b n f e)) (0, hz h o b n (crs n c f) e) := by
  refine Ev.succ (fun k => Zo_reset_e0 k _ _ _ _ _) ?_
  unfold Zo_reset_t0
  refine Ev.up (f := fun k i f => Zo_reset_f k 2 o c (J i) 0 (hz h o b n f e)) 4 (cr2 n c) (fun _ _ => True) (fun _ _ _ _ => trivial) (fun i f hi _ e2 => ?_) 3 1 f (by omega) trivial ?_
  · refine Ev.succ (fun k => Zo_reset_e2 k _ _ _ _ _) ?_
    unfold Zo_reset_t2
    refine Ev.neg (by rw [J4, J_le (by omega) (by omega)]; omega) ?_
    simp only [isSet_c _ c (show i < 2147483648 by omega), obd]
    unfold cr2 at e2
    by_cases hs : sb c i
    · rw [if_pos hs] at e2
      simp only [if_pos hs]
      exact Ev.neg (by decide) (reset_20 hob hn4 hn hi e2)
    · rw [if_neg hs] at e2
      simp only [if_neg hs]
      rw [show J i + 1 = J (i + 1) from J_add i 1]
      exact Ev.pos (by trivial) e2
  · refine Ev.succ (fun k => Zo_reset_e2 k _ _ _ _ _) ?_
    unfold Zo_reset_t2
    exact Ev.pos (by decide) Ev.ret
/-- is a diagonal tighter than "at most 0"? -/
def cbr (n : Nat) (f : Nat → Int32) : Nat → Nat → Int32
  | 0, _ => 0
  | d + 1, i => if 1 ≤ f (i * n + i) then cbr n f d (i + 1) else 1
theorem isBroken_c (hob : o ≠ b) (hn : n ≤ 5) {x1 : Int32} : Ev (fun k => Zo_isBroken_f k 0 o x1 (hz h o b n f e)) (cbr n f n 0, hz h o b n f e) := by
  refine Ev.succ (fun k => Zo_isBroken_e0 k _ _ _) ?_
  unfold Zo_isBroken_t0
  have main : ∀ d i, i + d = n → Ev (fun k => Zo_isBroken_f k 2 o (J i) (hz h o b n f e)) (cbr n f d i, hz h o b n f e) := by
    intro d
    induction d with
    | zero =>
      intro i hi
      refine Ev.succ (fun k => Zo_isBroken_e2 k _ _ _) ?_
      unfold Zo_isBroken_t2
      rw [hz_size hob]
      dsimp only [obd]
      exact Ev.pos (by rw [J_le (by omega) (by omega)]; omega) Ev.ret
    | succ d ih =>
      intro i hi
      refine Ev.succ (fun k => Zo_isBroken_e2 k _ _ _) ?_
      unfold Zo_isBroken_t2
      simp only [hz_size hob, hz_kc hob, at_c hob hn (show i < n by omega) (show i < n by omega), obd, if_true]
      refine Ev.neg (by rw [J_le (by omega) (by omega)]; omega) ?_
      by_cases hd : 1 ≤ f (i * n + i)
      · have ec : cbr n f (d + 1) i = cbr n f d (i + 1) := by
          show (if 1 ≤ f (i * n + i) then _ else _) = _
          rw [if_pos hd]
        rw [ec]
        refine Ev.pos hd ?_
        rw [show J i + 1 = J (i + 1) from J_add i 1]
        exact ih (i + 1) (by omega)
      · have ec : cbr n f (d + 1) i = 1 := by
          show (if 1 ≤ f (i * n + i) then _ else _) = _
          rw [if_neg hd]
        rw [ec]
        exact Ev.neg hd Ev.ret
  exact main n 0 (by omega)
theorem cbr_zb (n : Nat) (f : Nat → Int32) : ∀ d i, cbr n f d i = 0 ∨ cbr n f d i = 1 := by
  intro d
  induction d with
  | zero => intro i; exact Or.inl rfl
  | succ d ih =>
    intro i
    show (if 1 ≤ f (i * n + i) then cbr n f d (i + 1) else 1) = 0 ∨ (if 1 ≤ f (i * n + i) then cbr n f d (i + 1) else 1) = 1
    split
    · exact ih (i + 1)
    · exact Or.inr rfl
def cc1 (n k i j : Nat) (f : Nat → Int32) : Nat → Int32 := fu f (i * n + j) (if Mo_sum_f (f (i * n + k)) (f (k * n + j)) < f (i * n + j) then Mo_sum_f (f (i * n + k)) (f (k * n + j)) else f (i * n + j))
def cc3 (n k i : Nat) (f : Nat → Int32) : Nat → Int32 := it (cc1 n k i) 0 n f
def cc2 (n k : Nat) (f : Nat → Int32) : Nat → Int32 := it (cc3 n k) 0 n f
def ccS (n k : Nat) (q : zQ) : zQ := if q.2 = 0 then (cc2 n k q.1, cbr n (cc2 n k q.1) n 0) else q
def ccl (n : Nat) (q : zQ) : zQ := it (ccS n) 0 n q
theorem close_29 (hob : o ≠ b) (hn : n ≤ 5) {k i : Nat} (hk : k < n) (hi : i < n) (ee : Ev (fun m => Zo_close_f m 19 o (J k) (J (i + 1)) 0 (hz h o b n (cc3 n k i f) e)) R) : Ev (fun m => Zo_close_f m 29 o (J k) (J i) (J 0) (hz h o b n f e)) R := by
  refine Ev.up (f := fun m j f => Zo_close_f m 29 o (J k) (J i) (J j) (hz h o b n f e)) n (cc1 n k i) (fun _ _ => True) (fun _ _ _ _ => trivial) (fun j f hj _ e2 => ?_) n 0 f (by omega) trivial ?_
  · refine Ev.succ (fun m => Zo_close_e29 m _ _ _ _ _) ?_
    unfold Zo_close_t29
    simp only [hz_size hob, hz_kc hob, at_c hob hn hi hk, at_c hob hn hk hj, sum_c, narrow_c hob hn hi hj, obd, if_true]
    refine Ev.neg (by rw [J_le (by omega) (by omega)]; omega) ?_
    rw [show J j + 1 = J (j + 1) from J_add j 1]
    exact e2
  · refine Ev.succ (fun m => Zo_close_e29 m _ _ _ _ _) ?_
    unfold Zo_close_t29
    rw [hz_size hob]
    dsimp only [obd]
    refine Ev.pos (by rw [J_le (by omega) (by omega)]; omega) ?_
    rw [show J i + 1 = J (i + 1) from J_add i 1]
    exact ee
theorem close_19 (hob : o ≠ b) (hn : n ≤ 5) {k : Nat} (hk : k < n) (ee : Ev (fun m => Zo_close_f m 2 o (J (k + 1)) 0 0 (hz h o b n (cc2 n k f) (cbr n (cc2 n k f) n 0))) R) : Ev (fun m => Zo_close_f m 19 o (J k) (J 0) 0 (hz h o b n f e)) R := by
  refine Ev.up (f := fun m i f => Zo_close_f m 19 o (J k) (J i) 0 (hz h o b n f e)) n (cc3 n k) (fun _ _ => True) (fun _ _ _ _ => trivial) (fun i f hi _ e2 => ?_) n 0 f (by omega) trivial ?_
  · refine Ev.succ (fun m => Zo_close_e19 m _ _ _ _ _) ?_
    unfold Zo_close_t19
    rw [hz_size hob]
    dsimp only [obd]
    refine Ev.neg (by rw [J_le (by omega) (by omega)]; omega) ?_
    exact close_29 hob hn hk hi e2
  · refine Ev.succ (fun m => Zo_close_e19 m _ _ _ _ _) ?_
    unfold Zo_close_t19
    simp only [hz_size hob, hz_kc hob, obd, if_true]
    refine Ev.pos (by rw [J_le (by omega) (by omega)]; omega) ?_
    have kk := Ev.ob (isBroken_c (h := h) (f := cc2 n k f) (e := e) hob hn (x1 := 0)) (k := fun m r19 => if zb (r19.1) = true then obd (pf r19.2 o 1 2 (.int (r19.1))) (fun h21 => Zo_close_f m 2 o (J k + 1) 0 0 h21) else none) (R := R) (by
      refine Ev.pos (zb_of (cbr_zb n _ n 0)) ?_
      simp only [hz_pf hob, obd]
      rw [show J k + 1 = J (k + 1) from J_add k 1]
      exact ee)
    exact kk
theorem close_c (hob : o ≠ b) (hn : n ≤ 5) {x1 x2 x3 : Int32} : Ev (fun m => Zo_close_f m 0 o x1 x2 x3 (hz h o b n f e)) (0, hz h o b n (ccl n (f, e)).1 (ccl n (f, e)).2) := by
  refine Ev.succ (fun m => Zo_close_e0 m _ _ _ _ _) ?_
  unfold Zo_close_t0
  have main : ∀ d k (q : zQ), k + d = n → Ev (fun m => Zo_close_f m 2 o (J k) 0 0 (hz h o b n q.1 q.2)) (0, hz h o b n (it (ccS n) k d q).1 (it (ccS n) k d q).2) := by
    intro d
    induction d with
    | zero =>
      intro k q hk
      refine Ev.succ (fun m => Zo_close_e2 m _ _ _ _ _) ?_
      unfold Zo_close_t2
      rw [hz_size hob]
      dsimp only [obd]
      exact Ev.pos (by rw [J_le (by omega) (by omega)]; omega) Ev.ret
    | succ d ih =>
      intro k q hk
      refine Ev.succ (fun m => Zo_close_e2 m _ _ _ _ _) ?_
      unfold Zo_close_t2
      simp only [hz_size hob, hz_empty hob, obd]
      refine Ev.neg (by rw [J_le (by omega) (by omega)]; omega) ?_
      have nx := ih (k + 1) (ccS n k q) (by omega)
      by_cases h0 : q.2 = 0
      · refine Ev.pos h0 ?_
        have es : ccS n k q = (cc2 n k q.1, cbr n (cc2 n k q.1) n 0) := by unfold ccS; rw [if_pos h0]
        refine close_19 hob hn (show k < n by omega) ?_
        show Ev _ (0, hz h o b n (it (ccS n) (k + 1) d (ccS n k q)).1 (it (ccS n) (k + 1) d (ccS n k q)).2)
        rw [es] at nx ⊢
        exact nx
      · refine Ev.neg h0 ?_
        have dead : ∀ d k, it (ccS n) k d q = q := by
          intro d
          induction d with
          | zero => intro k; rfl
          | succ d ih2 =>
            intro k
            show it (ccS n) (k + 1) d (ccS n k q) = q
            have es : ccS n k q = q := by unfold ccS; rw [if_neg h0]
            rw [es]
            exact ih2 (k + 1)
        rw [dead (d + 1) k]
        exact Ev.ret
  exact main n 0 (f, e) (by omega)
end CR
