/-! THE CLASS's zones: the object o and its bounds b in a heap -/
def hz (h : xH) (o b n : Nat) (f : Nat → Int32) (e : Int32) : xH := fun a => if a = b then some (.inl (0, n * n, .inl f)) else if a = o then some (.inr (1, [.int (J n), .ref b, .int e])) else h a
def zoA (h : xH) (o b n : Nat) (f : Nat → Int32) (e : Int32) : Prop := o ≠ b ∧ h o = some (.inr (1, [.int (J n), .ref b, .int e])) ∧ h b = some (.inl (0, n * n, .inl f))
theorem zoA_hz {h : xH} {o b n : Nat} {f : Nat → Int32} {e : Int32} (k : zoA h o b n f e) : h = hz h o b n f e := by
  funext a
  unfold hz
  by_cases h1 : a = b
  · rw [if_pos h1, h1]; exact k.2.2
  · rw [if_neg h1]
    by_cases h2 : a = o
    · rw [if_pos h2, h2]; exact k.2.1
    · rw [if_neg h2]
theorem hz_b (h : xH) (o b n : Nat) (f : Nat → Int32) (e : Int32) : hz h o b n f e b = some (.inl (0, n * n, .inl f)) := by unfold hz; rw [if_pos rfl]
theorem hz_o (h : xH) {o b : Nat} (hob : o ≠ b) (n : Nat) (f : Nat → Int32) (e : Int32) : hz h o b n f e o = some (.inr (1, [.int (J n), .ref b, .int e])) := by unfold hz; rw [if_neg hob, if_pos rfl]
section CZ
variable {h : xH} {o b n : Nat} {f : Nat → Int32} {e : Int32}
theorem hz_size (hob : o ≠ b) : gi (hz h o b n f e) o 1 0 = some (J n) := by
  unfold gi
  rw [hz_o h hob]
  rfl
theorem hz_empty (hob : o ≠ b) : gi (hz h o b n f e) o 1 2 = some e := by
  unfold gi
  rw [hz_o h hob]
  rfl
theorem hz_bounds (hob : o ≠ b) : gq (hz h o b n f e) o 1 1 = some (some b) := by
  unfold gq
  rw [hz_o h hob]
  rfl
theorem hz_kc (hob : o ≠ b) : kc (hz h o b n f e) o 1 = true := by
  unfold kc
  rw [hz_o h hob]
  rfl
theorem hz_ai {i : Nat} (hi : i < n * n) (hn : n * n < 2147483648) : ai (hz h o b n f e) b 0 (J i) = some (f i) := by
  unfold ai
  rw [hz_b]
  dsimp only
  rw [if_pos rfl, if_pos (xin_J hi hn), J_nat (by omega)]
theorem hz_pa {i : Nat} (hi : i < n * n) (hn : n * n < 2147483648) (x : Int32) : pa (hz h o b n f e) b 0 (J i) x = some (hz h o b n (fu f i x) e) := by
  unfold pa
  rw [hz_b]
  dsimp only
  rw [if_pos rfl, if_pos (xin_J hi hn), J_nat (by omega)]
  congr 1
  funext a
  unfold xup hz
  by_cases h1 : a = b
  · rw [if_pos h1, if_pos h1]; rfl
  · rw [if_neg h1, if_neg h1, if_neg h1]
theorem hz_pf (hob : o ≠ b) (x : Int32) : pf (hz h o b n f e) o 1 2 (.int x) = some (hz h o b n f x) := by
  unfold pf
  rw [hz_o h hob]
  dsimp only
  rw [if_pos rfl, if_pos (by show 2 < 3; omega)]
  congr 1
  funext a
  unfold xup hz
  by_cases h2 : a = o
  · rw [if_pos h2, if_neg (by rw [h2]; exact hob), if_pos h2]; rfl
  · rw [if_neg h2]
    by_cases h1 : a = b
    · rw [if_pos h1, if_pos h1]
    · rw [if_neg h1, if_neg h1, if_neg h2, if_neg h2]
theorem ix_lt {n i j : Nat} (hi : i < n) (hj : j < n) : i * n + j < n * n := by
  have h1 : (i + 1) * n ≤ n * n := Nat.mul_le_mul_right n hi
  rw [Nat.succ_mul] at h1
  omega
theorem at_c (hob : o ≠ b) (hn : n ≤ 5) {i j : Nat} (hi : i < n) (hj : j < n) (k : Nat) : Zo_at_f k o (J i) (J j) (hz h o b n f e) = some (f (i * n + j), hz h o b n f e) := by
  have hnn : n * n ≤ 25 := Nat.mul_le_mul hn hn
  unfold Zo_at_f
  rw [hz_bounds hob, hz_size hob]
  dsimp only [obd]
  rw [J_mul, J_add, hz_ai (ix_lt hi hj) (by omega)]
theorem and1v (a : Int32) : a &&& (1 : Int32) = if a.toInt % 2 = 0 then 0 else 1 := by
  have hn : (a &&& (1 : Int32)).toBitVec.toNat = a.toBitVec.toNat % 2 := by
    show (a.toBitVec &&& 1#32).toNat = _
    rw [BitVec.toNat_and]
    show a.toBitVec.toNat &&& 1 = _
    exact Nat.and_one_is_mod _
  by_cases g : a.toInt % 2 = 0
  · rw [if_pos g]
    exact (and1 a).mpr g
  · rw [if_neg g]
    have n0 : ¬ (a &&& (1 : Int32) = 0) := fun t => g ((and1 a).mp t)
    apply Int32.toBitVec_inj.mp
    apply BitVec.eq_of_toNat_eq
    rw [hn]
    have e1 : (1 : Int32).toBitVec.toNat = 1 := by decide
    rcases Nat.mod_two_eq_zero_or_one a.toBitVec.toNat with t | t
    · exfalso
      apply n0
      apply Int32.toBitVec_inj.mp
      apply BitVec.eq_of_toNat_eq
      rw [hn, t]
      decide
    · rw [t, e1]
theorem two_shr (a : Int32) : (2 : Int32) * (a >>> ((1 : Int32) &&& 31)) = a - (a &&& (1 : Int32)) := by
  have r1 := Int32.le_toInt a
  have r2 := Int32.toInt_lt a
  apply Int32.toInt.inj
  rw [Int32.toInt_mul, Int32.toInt_sub, shr1, and1v]
  have two : (2 : Int32).toInt = 2 := by decide
  have one : (1 : Int32).toInt = 1 := by decide
  have zero : (0 : Int32).toInt = 0 := by decide
  rw [two]
  congr 1
  split
  · rw [zero]; omega
  · rw [one]; omega
theorem or1 (a b : Int32) : (a ||| b) &&& (1 : Int32) = if a.toInt % 2 = 0 ∧ b.toInt % 2 = 0 then 0 else 1 := by
  have d : (a ||| b) &&& (1 : Int32) = (a &&& (1 : Int32)) ||| (b &&& (1 : Int32)) := by
    apply Int32.toBitVec_inj.mp
    exact BitVec.and_or_distrib_right
  rw [d, and1v, and1v]
  by_cases h1 : a.toInt % 2 = 0 <;> by_cases h2 : b.toInt % 2 = 0
  · rw [if_pos h1, if_pos h2, if_pos ⟨h1, h2⟩]; decide
  · rw [if_pos h1, if_neg h2, if_neg (fun t => h2 t.2)]; decide
  · rw [if_neg h1, if_pos h2, if_neg (fun t => h1 t.1)]; decide
  · rw [if_neg h1, if_neg h2, if_neg (fun t => h1 t.1)]; decide
/-- the class's SUM is the reference's -/
theorem sum_c (k : Nat) (x y : Int32) (H : xH) : Zo_sum_f k x y H = some (Mo_sum_f x y, H) := by
  unfold Zo_sum_f Mo_sum_f
  by_cases h1 : x = 1000000
  · rw [if_pos h1, if_pos h1]
  · rw [if_neg h1, if_neg h1]
    by_cases h2 : y = 1000000
    · rw [if_pos h2, if_pos h2]
    · rw [if_neg h2, if_neg h2]
      have t1 := two_shr x
      have t2 := two_shr y
      have a1 := and1v x
      have a2 := and1v y
      have o := or1 x y
      unfold Mo_boundOf_f
      by_cases p1 : x.toInt % 2 = 0
      · rw [if_pos p1] at a1
        rw [if_pos a1, if_neg (by decide)]
        by_cases p2 : y.toInt % 2 = 0
        · rw [if_pos p2] at a2
          rw [if_pos ⟨p1, p2⟩] at o
          rw [o]
          rw [a1] at t1
          rw [a2] at t2
          congr 2
          grind
        · rw [if_neg p2] at a2
          rw [if_neg (fun t => p2 t.2)] at o
          rw [o]
          rw [a1] at t1
          rw [a2] at t2
          congr 2
          grind
      · rw [if_neg p1] at a1
        rw [if_neg (fun t => p1 t.1)] at o
        rw [if_neg (by rw [a1]; decide), o]
        rw [a1] at t1
        by_cases p2 : y.toInt % 2 = 0
        · rw [if_pos p2] at a2
          rw [if_pos a2, if_neg (by decide)]
          rw [a2] at t2
          congr 2
          grind
        · rw [if_neg p2] at a2
          rw [if_neg (by rw [a2]; decide), if_pos rfl]
          rw [a2] at t2
          congr 2
          grind
theorem narrow_c (hob : o ≠ b) (hn : n ≤ 5) {i j : Nat} (hi : i < n) (hj : j < n) (k : Nat) (x : Int32) : Zo_narrow_f k o (J i) (J j) x (hz h o b n f e) = some (0, hz h o b n (fu f (i * n + j) (if x < f (i * n + j) then x else f (i * n + j))) e) := by
  have hnn : n * n ≤ 25 := Nat.mul_le_mul hn hn
  unfold Zo_narrow_f
  rw [hz_bounds hob, hz_size hob]
  dsimp only [obd]
  rw [if_pos (hz_kc hob), at_c hob hn hi hj]
  dsimp only [obd]
  rw [J_mul, J_add, hz_pa (ix_lt hi hj) (by omega)]
theorem elapse_c (hob : o ≠ b) (hn : n ≤ 5) (hn1 : 1 ≤ n) {x1 : Int32} : Ev (fun k => Zo_elapse_f k 0 o x1 (hz h o b n f e)) (0, hz h o b n (it (fun i f => fu f (i * n) 1000000) 1 (n - 1) f) e) := by
  have hnn : n * n ≤ 25 := Nat.mul_le_mul hn hn
  refine Ev.succ (fun k => Zo_elapse_e0 k _ _ _) ?_
  unfold Zo_elapse_t0
  refine Ev.up (f := fun k i f => Zo_elapse_f k 2 o (J i) (hz h o b n f e)) n (fun i f => fu f (i * n) 1000000) (fun _ _ => True) (fun _ _ _ _ => trivial) (fun i f hi _ ee => ?_) (n - 1) 1 f (by omega) trivial ?_
  · refine Ev.succ (fun k => Zo_elapse_e2 k _ _ _) ?_
    unfold Zo_elapse_t2
    rw [hz_size hob, hz_bounds hob]
    dsimp only [obd]
    refine Ev.neg (by rw [J_le (by omega) (by omega)]; omega) ?_
    have hin : i * n < n * n := by
      have := ix_lt hi (show 0 < n by omega)
      omega
    rw [J_mul, hz_pa hin (by omega)]
    dsimp only
    rw [show J i + 1 = J (i + 1) from J_add i 1]
    exact ee
  · refine Ev.succ (fun k => Zo_elapse_e2 k _ _ _) ?_
    unfold Zo_elapse_t2
    rw [hz_size hob]
    dsimp only [obd]
    exact Ev.pos (by rw [J_le (by omega) (by omega)]; omega) Ev.ret
end CZ
