/-! THE CLASS: fill, becomeAllZero, liesIn -/
section CF
variable {h : xH} {o b n : Nat} {f : Nat → Int32} {e : Int32}
theorem hz_al {h : xH} {o b n : Nat} {f : Nat → Int32} {e : Int32} : al (hz h o b n f e) b 0 = some (J (n * n)) := by
  unfold al
  rw [hz_b]
  dsimp only
  rw [if_pos rfl]
  rfl
theorem fill_c (hn : n ≤ 5) {x x2 x3 : Int32} : Ev (fun k => J7_fill_53178_f k 0 (some b) x x2 x3 (hz h o b n f e)) (0, hz h o b n (fun i => if i < n * n then x else f i) e) := by
  have hnn : n * n ≤ 25 := Nat.mul_le_mul hn hn
  refine Ev.succ (fun k => J7_fill_53178_e0 k _ _ _ _ _) ?_
  unfold J7_fill_53178_t0
  simp only [hz_al, obd]
  have key := Ev.up (f := fun k i f => J7_fill_53178_f k 5 (some b) x (J i) (J (n * n)) (hz h o b n f e)) (R := (0, hz h o b n (fun i => if i < n * n then x else f i) e)) (n * n) (fun i f => fu f i x) (fun _ _ => True) (fun _ _ _ _ => trivial) (fun i f hi _ e2 => by
    refine Ev.succ (fun k => J7_fill_53178_e5 k _ _ _ _ _) ?_
    unfold J7_fill_53178_t5
    simp only [obd, hz_pa hi (show n * n < 2147483648 by omega)]
    refine Ev.neg (by rw [J_le (by omega) (by omega)]; omega) ?_
    rw [show J i + 1 = J (i + 1) from J_add i 1]
    exact e2) (n * n) 0 f (by omega) trivial
  refine key ?_
  rw [it_fu0 (fun _ => x)]
  refine Ev.succ (fun k => J7_fill_53178_e5 k _ _ _ _ _) ?_
  unfold J7_fill_53178_t5
  exact Ev.pos (by rw [J_le (by omega) (by omega)]; omega) Ev.ret
theorem allZero_c (hob : o ≠ b) (hn : n ≤ 5) : Ev (fun k => Zo_becomeAllZero_f k o (hz h o b n f e)) (0, hz h o b n (fun i => if i < n * n then 1 else f i) 0) := by
  unfold Zo_becomeAllZero_f
  simp only [hz_bounds hob, obd]
  have kk := Ev.ob (fill_c (h := h) (o := o) (b := b) (f := f) (e := e) hn (x := 1) (x2 := 0) (x3 := 0)) (k := fun _ r6 => obd (pf r6.2 o 1 2 (.int (0 : Int32))) (fun h7 => some ((0 : Int32), h7))) (R := (0, hz h o b n (fun i => if i < n * n then 1 else f i) 0)) (by
    simp only [hz_pf hob, obd]
    exact Ev.ret)
  exact kk
/-! reading a zone in any heap -/
theorem zoA_size (z : zoA h o b n f e) : gi h o 1 0 = some (J n) := by
  unfold gi
  rw [z.2.1]
  rfl
theorem zoA_empty (z : zoA h o b n f e) : gi h o 1 2 = some e := by
  unfold gi
  rw [z.2.1]
  rfl
theorem zoA_bounds (z : zoA h o b n f e) : gq h o 1 1 = some (some b) := by
  unfold gq
  rw [z.2.1]
  rfl
theorem zoA_kc (z : zoA h o b n f e) : kc h o 1 = true := by
  unfold kc
  rw [z.2.1]
  rfl
theorem zoA_ai (z : zoA h o b n f e) {i : Nat} (hi : i < n * n) (hn : n ≤ 5) : ai h b 0 (J i) = some (f i) := by
  have hnn : n * n ≤ 25 := Nat.mul_le_mul hn hn
  unfold ai
  rw [z.2.2]
  dsimp only
  rw [if_pos rfl, if_pos (xin_J hi (by omega)), J_nat (by omega)]
theorem zoA_al (z : zoA h o b n f e) : al h b 0 = some (J (n * n)) := by
  unfold al
  rw [z.2.2]
  dsimp only
  rw [if_pos rfl]
  rfl
/-- bounds from i on, none of f looser than of f2 -/
def cli (f f2 : Nat → Int32) : Nat → Nat → Int32
  | 0, _ => 1
  | d + 1, i => if f i ≤ f2 i then cli f f2 d (i + 1) else 0
theorem liesIn_c {o2 b2 : Nat} {f2 : Nat → Int32} {e2 : Int32} (hn : n ≤ 5) (z : zoA h o b n f e) (z2 : zoA h o2 b2 n f2 e2) (he : e = 0 ∨ e = 1) {x2 : Int32} : Ev (fun k => Zo_liesIn_f k 0 o (some o2) x2 h) ((if e = 0 then (if e2 = 0 then cli f f2 (n * n) 0 else 0) else 1), h) := by
  have hnn : n * n ≤ 25 := Nat.mul_le_mul hn hn
  refine Ev.succ (fun k => Zo_liesIn_e0 k _ _ _ _) ?_
  unfold Zo_liesIn_t0
  simp only [zoA_empty z, zoA_empty z2, zoA_size z, zoA_size z2, zb_of he, obd, if_true]
  have main : ∀ d i, i + d = n * n → Ev (fun k => Zo_liesIn_f k 34 o (some o2) (J i) h) (cli f f2 d i, h) := by
    intro d
    induction d with
    | zero =>
      intro i hi
      refine Ev.succ (fun k => Zo_liesIn_e34 k _ _ _ _) ?_
      unfold Zo_liesIn_t34
      simp only [zoA_bounds z, zoA_al z, obd]
      exact Ev.pos (by rw [J_le (by omega) (by omega)]; omega) Ev.ret
    | succ d ih =>
      intro i hi
      refine Ev.succ (fun k => Zo_liesIn_e34 k _ _ _ _) ?_
      unfold Zo_liesIn_t34
      simp only [zoA_bounds z, zoA_bounds z2, zoA_al z, zoA_ai z (show i < n * n by omega) hn, zoA_ai z2 (show i < n * n by omega) hn, obd]
      refine Ev.neg (by rw [J_le (by omega) (by omega)]; omega) ?_
      by_cases g : f i ≤ f2 i
      · have ec : cli f f2 (d + 1) i = cli f f2 d (i + 1) := by
          show (if f i ≤ f2 i then _ else _) = _
          rw [if_pos g]
        rw [ec]
        refine Ev.pos g ?_
        rw [show J i + 1 = J (i + 1) from J_add i 1]
        exact ih (i + 1) (by omega)
      · have ec : cli f f2 (d + 1) i = 0 := by
          show (if f i ≤ f2 i then _ else _) = _
          rw [if_neg g]
        rw [ec]
        exact Ev.neg g Ev.ret
  by_cases h0 : e = 0
  · simp only [h0, if_true]
    by_cases h1 : e2 = 0
    · simp only [h1, if_true]
      exact main (n * n) 0 (by omega)
    · simp only [h1, if_false]
      exact Ev.ret
  · have e1 := he.resolve_left h0
    simp only [h0, if_false]
    rw [e1]
    exact Ev.ret
end CF
