/-! THE CLASS: becomeAllTimes, cutBy -/
def ca1 (n i : Nat) (f : Nat → Int32) : Nat → Int32 := fu (fu f i 1) (i * n + i) 1
def caz (n : Nat) (f : Nat → Int32) : Nat → Int32 := it (ca1 n) 0 n (fun i => if i < n * n then 1000000 else f i)
def cu1 (n : Nat) (f2 : Nat → Int32) (i j : Nat) (f : Nat → Int32) : Nat → Int32 := fu f (i * n + j) (if f2 (i * n + j) < f (i * n + j) then f2 (i * n + j) else f (i * n + j))
def cuz (n : Nat) (f2 f : Nat → Int32) : Nat → Int32 := it (fun i f => it (cu1 n f2 i) 0 n f) 0 n f
section CT
variable {h : xH} {o b n o2 b2 : Nat} {f f2 : Nat → Int32} {e e2 : Int32} {R : Int32 × xH}
theorem allTimes_c (hob : o ≠ b) (hn : n ≤ 5) {x1 : Int32} : Ev (fun k => Zo_becomeAllTimes_f k 0 o x1 (hz h o b n f e)) (0, hz h o b n (caz n f) 0) := by
  have hnn : n * n ≤ 25 := Nat.mul_le_mul hn hn
  refine Ev.succ (fun k => Zo_becomeAllTimes_e0 k _ _ _) ?_
  unfold Zo_becomeAllTimes_t0
  simp only [hz_bounds hob, obd]
  have loop : Ev (fun k => Zo_becomeAllTimes_f k 11 o (0 : Int32) (hz h o b n (fun i => if i < n * n then 1000000 else f i) e)) (0, hz h o b n (caz n f) 0) := by
    refine Ev.up (f := fun k i f => Zo_becomeAllTimes_f k 11 o (J i) (hz h o b n f e)) n (ca1 n) (fun _ _ => True) (fun _ _ _ _ => trivial) (fun i f hi _ ee => ?_) n 0 _ (by omega) trivial ?_
    · refine Ev.succ (fun k => Zo_becomeAllTimes_e11 k _ _ _) ?_
      unfold Zo_becomeAllTimes_t11
      have hin : i < n * n := by
        have := ix_lt (show 0 < n by omega) hi
        omega
      have p2 : ∀ F x, pa (hz h o b n F e) b 0 (J i * J n + J i) x = some (hz h o b n (fu F (i * n + i) x) e) := fun F x => by
        rw [J_mul, J_add]
        exact hz_pa (ix_lt hi hi) (by omega) x
      simp only [hz_size hob, hz_bounds hob, hz_pa hin (show n * n < 2147483648 by omega), p2, obd]
      refine Ev.neg (by rw [J_le (by omega) (by omega)]; omega) ?_
      rw [show J i + 1 = J (i + 1) from J_add i 1]
      exact ee
    · refine Ev.succ (fun k => Zo_becomeAllTimes_e11 k _ _ _) ?_
      unfold Zo_becomeAllTimes_t11
      simp only [hz_size hob, hz_pf hob, obd]
      exact Ev.pos (by rw [J_le (by omega) (by omega)]; omega) Ev.ret
  exact Ev.ob (fill_c (h := h) (o := o) (b := b) (f := f) (e := e) hn (x := 1000000) (x2 := 0) (x3 := 0)) loop
theorem cutBy_c (hob : o ≠ b) (hn : n ≤ 5) (z2 : zoA h o2 b2 n f2 e2) (h1 : o2 ≠ o) (h2 : o2 ≠ b) (h3 : b2 ≠ o) (h4 : b2 ≠ b) {x2 x3 : Int32} : Ev (fun k => Zo_cutBy_f k 0 o (some o2) x2 x3 (hz h o b n f e)) (0, hz h o b n (cuz n f2 f) e) := by
  have q2 : ∀ F, zoA (hz h o b n F e) o2 b2 n f2 e2 := fun F => zoA_off z2 h1 h2 h3 h4
  refine Ev.succ (fun k => Zo_cutBy_e0 k _ _ _ _ _) ?_
  unfold Zo_cutBy_t0
  refine Ev.up (f := fun k i f => Zo_cutBy_f k 2 o (some o2) (J i) 0 (hz h o b n f e)) n (fun i f => it (cu1 n f2 i) 0 n f) (fun _ _ => True) (fun _ _ _ _ => trivial) (fun i f hi _ ee => ?_) n 0 f (by omega) trivial ?_
  · refine Ev.succ (fun k => Zo_cutBy_e2 k _ _ _ _ _) ?_
    unfold Zo_cutBy_t2
    rw [hz_size hob]
    dsimp only [obd]
    refine Ev.neg (by rw [J_le (by omega) (by omega)]; omega) ?_
    refine Ev.up (f := fun k j f => Zo_cutBy_f k 12 o (some o2) (J i) (J j) (hz h o b n f e)) n (cu1 n f2 i) (fun _ _ => True) (fun _ _ _ _ => trivial) (fun j f hj _ e3 => ?_) n 0 f (by omega) trivial ?_
    · refine Ev.succ (fun k => Zo_cutBy_e12 k _ _ _ _ _) ?_
      unfold Zo_cutBy_t12
      simp only [hz_size hob, zoA_size (q2 f), zoA_kc (q2 f), hz_kc hob, at_A (q2 f) hn hi hj, narrow_c hob hn hi hj, obd, if_true]
      refine Ev.neg (by rw [J_le (by omega) (by omega)]; omega) ?_
      rw [show J j + 1 = J (j + 1) from J_add j 1]
      exact e3
    · refine Ev.succ (fun k => Zo_cutBy_e12 k _ _ _ _ _) ?_
      unfold Zo_cutBy_t12
      rw [hz_size hob]
      dsimp only [obd]
      refine Ev.pos (by rw [J_le (by omega) (by omega)]; omega) ?_
      rw [show J i + 1 = J (i + 1) from J_add i 1]
      exact ee
  · refine Ev.succ (fun k => Zo_cutBy_e2 k _ _ _ _ _) ?_
    unfold Zo_cutBy_t2
    rw [hz_size hob]
    dsimp only [obd]
    exact Ev.pos (by rw [J_le (by omega) (by omega)]; omega) Ev.ret
end CT
