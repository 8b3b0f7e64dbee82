/-! THE CLASS: at in any heap, leastTotal -/
theorem at_A {h : xH} {o b n : Nat} {f : Nat → Int32} {e : Int32} (z : zoA h o b n f e) (hn : n ≤ 5) {i j : Nat} (hi : i < n) (hj : j < n) (k : Nat) : Zo_at_f k o (J i) (J j) h = some (f (i * n + j), h) := by
  have e1 := zoA_hz z
  have k1 := at_c (h := h) (f := f) (e := e) z.1 hn hi hj k
  rw [← e1] at k1
  exact k1
theorem leastTotal_c {h : xH} {o b : Nat} {f : Nat → Int32} {e : Int32} (z : zoA h o b 5 f e) (k : Nat) : Ya_leastTotal_f k (some o) h = some (soonOf (f (0 * 5 + 4)), h) := by
  unfold Ya_leastTotal_f
  have a := at_A z (by omega) (show 0 < 5 by omega) (show 4 < 5 by omega) k
  have a' : Zo_at_f k o (0 : Int32) (4 : Int32) h = some (f (0 * 5 + 4), h) := a
  simp only [zoA_kc z, a', obd, if_true]
  unfold soonOf
  by_cases g : f (0 * 5 + 4) &&& (1 : Int32) = (1 : Int32)
  · rw [if_pos g, if_pos g]
    congr 2
    grind
  · rw [if_neg g, if_neg g]
    congr 2
    grind
