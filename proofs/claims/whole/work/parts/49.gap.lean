/-! where bounds are small, what is far may be farther -/
def cnt (v : Nat → Rat) (t : Rat) : Nat → Nat
  | 0 => 0
  | n + 1 => cnt v t n + (if t < v n then 1 else 0)
theorem cnt_le (v : Nat → Rat) (t : Rat) : ∀ n, cnt v t n ≤ n := by
  intro n
  induction n with
  | zero => exact Nat.le_refl _
  | succ n ih =>
    show cnt v t n + (if t < v n then 1 else 0) ≤ n + 1
    split <;> omega
theorem cnt_mono (v : Nat → Rat) {s t : Rat} (h : s ≤ t) : ∀ n, cnt v t n ≤ cnt v s n := by
  intro n
  induction n with
  | zero => exact Nat.le_refl _
  | succ n ih =>
    show cnt v t n + (if t < v n then 1 else 0) ≤ cnt v s n + (if s < v n then 1 else 0)
    by_cases h1 : t < v n
    · rw [if_pos h1, if_pos (by grind)]; omega
    · rw [if_neg h1]; omega
theorem cnt_lt (v : Nat → Rat) {s t : Rat} (h : s ≤ t) {k : Nat} (h1 : s < v k) (h2 : v k ≤ t) : ∀ n, k < n → cnt v t n < cnt v s n := by
  intro n
  induction n with
  | zero => intro hk; omega
  | succ n ih =>
    intro hk
    show cnt v t n + (if t < v n then 1 else 0) < cnt v s n + (if s < v n then 1 else 0)
    by_cases e : k = n
    · rw [e] at h1 h2
      have := cnt_mono v h n
      rw [if_neg (by grind), if_pos h1]
      omega
    · have := ih (by omega)
      by_cases g : t < v n
      · rw [if_pos g, if_pos (by grind)]; omega
      · rw [if_neg g]; omega
def mulC (C : Rat) : Nat → Rat
  | 0 => 0
  | n + 1 => mulC C n + C
theorem mulC_nn {C : Rat} (h : 0 ≤ C) : ∀ n, 0 ≤ mulC C n := by
  intro n
  induction n with
  | zero => exact Rat.le_refl
  | succ n ih =>
    show 0 ≤ mulC C n + C
    grind
theorem mulC_mono {C : Rat} (h : 0 ≤ C) {a b : Nat} (hab : a ≤ b) : mulC C a ≤ mulC C b := by
  induction b with
  | zero => rw [show a = 0 by omega]; exact Rat.le_refl
  | succ b ih =>
    by_cases e : a = b + 1
    · rw [e]; exact Rat.le_refl
    · have := ih (by omega)
      show mulC C a ≤ mulC C b + C
      grind
/-- a gap above t -/
theorem gap {m : Nat} (v : Nat → Rat) {C : Rat} (hC : 0 ≤ C) : ∀ c t, cnt v t m ≤ c → ∃ s, t ≤ s ∧ s ≤ t + mulC C c ∧ ∀ k, k < m → s < v k → s + C < v k := by
  intro c
  induction c with
  | zero =>
    intro t h
    refine ⟨t, Rat.le_refl, ?_, fun k hk g => ?_⟩
    · show t ≤ t + 0
      grind
    · exfalso
      have := cnt_lt v (s := t) (t := v k) (Rat.le_of_lt g) g Rat.le_refl m hk
      omega
  | succ c ih =>
    intro t h
    by_cases hn : ∃ k, k < m ∧ t < v k ∧ v k ≤ t + C
    · obtain ⟨k, hk, h1, h2⟩ := hn
      have := cnt_lt v (s := t) (t := t + C) (by grind) h1 h2 m hk
      obtain ⟨s, a, b, d⟩ := ih (t + C) (by omega)
      refine ⟨s, by grind, ?_, d⟩
      show s ≤ t + (mulC C c + C)
      grind
    · refine ⟨t, Rat.le_refl, ?_, fun k hk g => ?_⟩
      · have := mulC_nn hC (c + 1)
        grind
      · exact Classical.byContradiction (fun u => hn ⟨k, hk, g, by grind⟩)
theorem fn_sInv {m : Nat} {M : iM} {C K : Rat} (hK : K ≤ C) (hC : 0 ≤ C) (hb : ∀ i j, i < m → j < m → M i j = AN ∨ cR (M i j) ≤ C) : sInv m K (mulC C m) M := by
  intro v hv i j hi hj hL X
  obtain ⟨s, h1, h2, h3⟩ := gap (m := m) v hC m (v j) (cnt_le v (v j) m)
  have hi2 : s + C < v i := h3 i hi (by grind)
  have hjs : ¬ (s < v j) := fun t => by grind
  have big : ∃ n : Rat, 0 ≤ n ∧ X ≤ n := by
    rcases (Rat.le_total : 0 ≤ X ∨ X ≤ 0) with g | g
    · exact ⟨X, g, Rat.le_refl⟩
    · exact ⟨0, Rat.le_refl, g⟩
  obtain ⟨n, n0, nX⟩ := big
  refine ⟨fun k => if s < v k then v k + n else v k, fun a b ha hb2 => ?_, fun a b ha hb2 => ?_, ?_⟩
  · have h := hv a b ha hb2
    by_cases ga : s < v a
    · by_cases gb : s < v b
      · show lb _ ((if s < v a then v a + n else v a) - (if s < v b then v b + n else v b))
        rw [if_pos ga, if_pos gb]
        have e : v a + n - (v b + n) = v a - v b := by grind
        rw [e]
        exact h
      · rcases hb a b ha hb2 with g | g
        · rw [g]; exact lb_AN _
        · by_cases gA : M a b = AN
          · rw [gA]; exact lb_AN _
          · exfalso
            have w := lb_weak h gA
            have := h3 a ha ga
            grind
    · by_cases gb : s < v b
      · show lb _ ((if s < v a then v a + n else v a) - (if s < v b then v b + n else v b))
        rw [if_neg ga, if_pos gb]
        exact lb_up h (by grind)
      · show lb _ ((if s < v a then v a + n else v a) - (if s < v b then v b + n else v b))
        rw [if_neg ga, if_neg gb]
        exact h
  · show v a - v b = (if s < v a then v a + n else v a) - (if s < v b then v b + n else v b) ∨ (K < v a - v b ∧ K < (if s < v a then v a + n else v a) - (if s < v b then v b + n else v b)) ∨ (v a - v b < -K ∧ (if s < v a then v a + n else v a) - (if s < v b then v b + n else v b) < -K)
    by_cases ga : s < v a
    · by_cases gb : s < v b
      · rw [if_pos ga, if_pos gb]; left; grind
      · rw [if_pos ga, if_neg gb]
        have := h3 a ha ga
        right; left; grind
    · by_cases gb : s < v b
      · rw [if_neg ga, if_pos gb]
        have := h3 b hb2 gb
        right; right; grind
      · rw [if_neg ga, if_neg gb]; left; rfl
  · show X < (if s < v i then v i + n else v i) - (if s < v j then v j + n else v j)
    rw [if_pos (by grind), if_neg hjs]
    have := mulC_nn hC m
    grind
