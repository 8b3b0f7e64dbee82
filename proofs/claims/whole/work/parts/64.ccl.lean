/-! THE CLASS's close is the reference's, stopping where it is EMPTY -/
def cagr (n : Nat) (f Z : Nat → Int32) : Prop := ∀ i j, i < n → j < n → f (i * n + j) = Z (5 * i + j)
theorem cagr_ci {n : Nat} {f Z : Nat → Int32} (h : cagr n f Z) : agr n (ci n f) (zi Z) := fun i j hi hj => by
  unfold ci zi
  rw [h i j hi hj]
theorem cagr_fu {n : Nat} (hn : n ≤ 5) {f Z : Nat → Int32} (h : cagr n f Z) {p q : Nat} (hq : q < n) (x : Int32) : cagr n (fu f (p * n + q) x) (fu Z (5 * p + q) x) := fun i j hi hj => by
  unfold fu
  by_cases g : i = p ∧ j = q
  · rw [if_pos ((ixn hj hq).mpr g), if_pos (by rw [idx5 (by omega) (by omega)]; exact g)]
  · rw [if_neg (fun t => g ((ixn hj hq).mp t)), if_neg (by rw [idx5 (by omega) (by omega)]; exact g)]
    exact h i j hi hj
theorem it_rel {S T : Type} {b1 : Nat → S → S} {b2 : Nat → T → T} {Rl : S → T → Prop} {hi : Nat} (step : ∀ k s t, k < hi → Rl s t → Rl (b1 k s) (b2 k t)) : ∀ d k s t, k + d = hi → Rl s t → Rl (it b1 k d s) (it b2 k d t) := by
  intro d
  induction d with
  | zero => intro k s t _ h; exact h
  | succ d ih => intro k s t hk h; exact ih (k + 1) _ _ (by omega) (step k s t (by omega) h)
theorem cc1_cs {n : Nat} (hn : n ≤ 5) {k i j : Nat} (hk : k < n) (hi : i < n) (hj : j < n) {f Z : Nat → Int32} (h : cagr n f Z) : cagr n (cc1 n k i j f) (cs k i j Z) := by
  have e : (if Mo_sum_f (f (i * n + k)) (f (k * n + j)) < f (i * n + j) then Mo_sum_f (f (i * n + k)) (f (k * n + j)) else f (i * n + j)) = (if Z (5 * i + j) ≤ Mo_sum_f (Z (5 * i + k)) (Z (5 * k + j)) then Z (5 * i + j) else Mo_sum_f (Z (5 * i + k)) (Z (5 * k + j))) := by
    rw [h i k hi hk, h k j hk hj, h i j hi hj]
    by_cases g : Z (5 * i + j) ≤ Mo_sum_f (Z (5 * i + k)) (Z (5 * k + j))
    · rw [if_pos g, if_neg (Int32.not_lt.mpr g)]
    · rw [if_neg g, if_pos (Int32.not_le.mp g)]
  unfold cc1 cs
  rw [e]
  exact cagr_fu hn h hj _
theorem cc2_cl2 {n : Nat} (hn : n ≤ 5) {k : Nat} (hk : k < n) {f Z : Nat → Int32} (h : cagr n f Z) : cagr n (cc2 n k f) (cl2 n k Z) :=
  it_rel (Rl := cagr n) (hi := n) (fun i f Z hi h => it_rel (Rl := cagr n) (hi := n) (fun j f Z hj h => cc1_cs hn hk hi hj h) n 0 f Z (by omega) h) n 0 f Z (by omega) h
theorem cbr_is (n : Nat) (f : Nat → Int32) : ∀ d i, (cbr n f d i = 0 ∧ ∀ j, i ≤ j → j < i + d → 1 ≤ f (j * n + j)) ∨ (cbr n f d i = 1 ∧ ∃ j, i ≤ j ∧ j < i + d ∧ ¬ (1 ≤ f (j * n + j))) := by
  intro d
  induction d with
  | zero => intro i; exact Or.inl ⟨rfl, fun j h1 h2 => by omega⟩
  | succ d ih =>
    intro i
    have ec : cbr n f (d + 1) i = if 1 ≤ f (i * n + i) then cbr n f d (i + 1) else 1 := rfl
    rw [ec]
    by_cases g : 1 ≤ f (i * n + i)
    · rw [if_pos g]
      rcases ih (i + 1) with ⟨a, b⟩ | ⟨a, j, b, c, e⟩
      · refine Or.inl ⟨a, fun j h1 h2 => ?_⟩
        by_cases hj : j = i
        · rw [hj]; exact g
        · exact b j (by omega) (by omega)
      · exact Or.inr ⟨a, j, by omega, by omega, e⟩
    · rw [if_neg g]
      exact Or.inr ⟨rfl, i, by omega, by omega, g⟩
theorem ccS_dead {n : Nat} {q : zQ} (h : q.2 = 1) : ∀ d k, it (ccS n) k d q = q := by
  intro d
  induction d with
  | zero => intro k; rfl
  | succ d ih =>
    intro k
    show it (ccS n) (k + 1) d (ccS n k q) = q
    have es : ccS n k q = q := by unfold ccS; rw [if_neg (by rw [h]; decide)]
    rw [es]
    exact ih (k + 1)
theorem ccl_main {n : Nat} (hn : n ≤ 5) : ∀ d k (f Z : Nat → Int32), k + (d + 1) = n → cagr n f Z → ((it (ccS n) k (d + 1) (f, 0)).2 = em n (it (cl2 n) k (d + 1) Z) 0) ∧ (em n (it (cl2 n) k (d + 1) Z) 0 = 0 → cagr n (it (ccS n) k (d + 1) (f, 0)).1 (it (cl2 n) k (d + 1) Z)) := by
  have one : (1 : Int32).toInt = 1 := by decide
  intro d
  induction d with
  | zero =>
    intro k f Z hk h
    have c := cc2_cl2 hn (show k < n by omega) h
    have e1 : it (ccS n) k 1 (f, 0) = (cc2 n k f, cbr n (cc2 n k f) n 0) := by
      show ccS n k (f, 0) = _
      unfold ccS
      rw [if_pos rfl]
    have e2 : it (cl2 n) k 1 Z = cl2 n k Z := rfl
    rw [e1, e2]
    refine ⟨?_, fun _ => c⟩
    show cbr n (cc2 n k f) n 0 = em n (cl2 n k Z) 0
    rcases cbr_is n (cc2 n k f) n 0 with ⟨a, b⟩ | ⟨a, j, b1, b2, b3⟩ <;> rcases em_is n (cl2 n k Z) with ⟨a2, c2⟩ | ⟨a2, i, c1, c2⟩
    · rw [a, a2]
    · exfalso
      have t := i32_le.mp (b i (by omega) (by omega))
      rw [c i i c1 c1, one] at t
      unfold zi at c2
      omega
    · exfalso
      apply b3
      rw [i32_le, one, c j j (by omega) (by omega)]
      exact c2 j (by omega)
    · rw [a, a2]
  | succ d ih =>
    intro k f Z hk h
    have c := cc2_cl2 hn (show k < n by omega) h
    have e1 : it (ccS n) k (d + 1 + 1) (f, 0) = it (ccS n) (k + 1) (d + 1) (cc2 n k f, cbr n (cc2 n k f) n 0) := by
      show it (ccS n) (k + 1) (d + 1) (ccS n k (f, 0)) = _
      unfold ccS
      rw [if_pos rfl]
    have e2 : it (cl2 n) k (d + 1 + 1) Z = it (cl2 n) (k + 1) (d + 1) (cl2 n k Z) := rfl
    rw [e1, e2]
    rcases cbr_is n (cc2 n k f) n 0 with ⟨a, _⟩ | ⟨a, j, b1, b2, b3⟩
    · rw [a]
      exact ih (k + 1) (cc2 n k f) (cl2 n k Z) (by omega) c
    · rw [a, ccS_dead (show ((cc2 n k f, (1 : Int32)) : zQ).2 = 1 from rfl)]
      have low : zi (it (cl2 n) (k + 1) (d + 1) (cl2 n k Z)) j j < 1 := by
        have t := it_le n (d + 1) (k + 1) (cl2 n k Z) (5 * j + j)
        have u : ¬ ((1 : Int32).toInt ≤ (cc2 n k f (j * n + j)).toInt) := fun t => b3 (i32_le.mpr t)
        rw [c j j (by omega) (by omega), one] at u
        unfold zi
        omega
      have em1 : em n (it (cl2 n) (k + 1) (d + 1) (cl2 n k Z)) 0 = 1 := by
        rcases em_is n (it (cl2 n) (k + 1) (d + 1) (cl2 n k Z)) with ⟨_, g⟩ | ⟨g, _⟩
        · have := g j (by omega)
          omega
        · exact g
      refine ⟨em1.symm, fun t => ?_⟩
      rw [em1] at t
      exact absurd t (by decide)
/-- closing: same emptiness, and where not EMPTY the same bounds -/
theorem ccl_is {n : Nat} (hn : n ≤ 5) (hn1 : 1 ≤ n) {f Z : Nat → Int32} (h : cagr n f Z) : (ccl n (f, 0)).2 = em n (cl n Z) 0 ∧ (em n (cl n Z) 0 = 0 → cagr n (ccl n (f, 0)).1 (cl n Z)) := by
  obtain ⟨d, hd⟩ : ∃ d, n = d + 1 := ⟨n - 1, by omega⟩
  have k := ccl_main hn d 0 f Z (by omega) h
  rw [← hd] at k
  exact k
