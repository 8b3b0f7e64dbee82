/-! closing, stage by stage, in integers -/
def zi (Z : Nat → Int32) (i j : Nat) : Int := (Z (5 * i + j)).toInt
abbrev iM : Type := Nat → Nat → Int
/-- one stage of closing -/
def fw (k : Nat) (X : iM) : iM := fun i j => min (X i j) (sm (X i k) (X k j))
def rg (m : Nat) (B : Int) (X : iM) : Prop := ∀ i j, i < m → j < m → -B ≤ X i j ∧ X i j ≤ AN
theorem idx5 {a b i j : Nat} (hb : b < 5) (hj : j < 5) : 5 * a + b = 5 * i + j ↔ a = i ∧ b = j := by omega
theorem i32_le {a b : Int32} : a ≤ b ↔ a.toInt ≤ b.toInt := Int32.le_iff_toInt_le
theorem i32_lt {a b : Int32} : a < b ↔ a.toInt < b.toInt := Int32.lt_iff_toInt_lt
theorem cs_zi {Z : Nat → Int32} {m k i j : Nat} (hm : m ≤ 5) (hk : k < m) (hi : i < m) (hj : j < m) {B : Int} (hB : B ≤ 1073741824) (hr : rg m B (zi Z)) {a b : Nat} (hb : b < 5) : zi (cs k i j Z) a b = if a = i ∧ b = j then min (zi Z i j) (sm (zi Z i k) (zi Z k j)) else zi Z a b := by
  have r1 := hr i k hi hk
  have r2 := hr k j hk hj
  have es : (Mo_sum_f (Z (5 * i + k)) (Z (5 * k + j))).toInt = sm (zi Z i k) (zi Z k j) := sum_is (by unfold zi at r1; omega) (by unfold zi at r2; omega) r1.2 r2.2
  unfold zi cs fu
  by_cases h : a = i ∧ b = j
  · rw [if_pos h, if_pos (by rw [idx5 hb (by omega)]; exact h)]
    by_cases hc : Z (5 * i + j) ≤ Mo_sum_f (Z (5 * i + k)) (Z (5 * k + j))
    · rw [if_pos hc]
      have := i32_le.mp hc
      rw [es] at this
      unfold zi at this
      omega
    · rw [if_neg hc, es]
      have : ¬ ((Z (5 * i + j)).toInt ≤ sm (zi Z i k) (zi Z k j)) := fun t => hc (i32_le.mpr (by rw [es]; exact t))
      unfold zi at this ⊢
      omega
  · rw [if_neg h, if_neg (by rw [idx5 hb (by omega)]; exact h)]
/-- a stage whose own bound is "at most 0": all bounds at once -/
theorem cl2_zi {Z : Nat → Int32} {m k : Nat} (hm : m ≤ 5) (hk : k < m) {B : Int} (h0 : 0 ≤ B) (hB : B ≤ 536870000) (hr : rg m B (zi Z)) (hd : zi Z k k = 1) {a b : Nat} (ha : a < m) (hb : b < m) : zi (cl2 m k Z) a b = fw k (zi Z) a b := by
  have colk : ∀ i, fw k (zi Z) i k = zi Z i k := fun i => by
    unfold fw
    rw [hd, sm_one]
    omega
  have rowk : ∀ j, fw k (zi Z) k j = zi Z k j := fun j => by
    unfold fw
    rw [hd, one_sm]
    omega
  have frg : ∀ i j, i < m → j < m → -(2 * B + 1) ≤ fw k (zi Z) i j ∧ fw k (zi Z) i j ≤ AN := fun i j hi hj => by
    have r0 := hr i j hi hj
    have r1 := hr i k hi hk
    have r2 := hr k j hk hj
    have f : -(2 * B + 1) ≤ sm (zi Z i k) (zi Z k j) := by
      by_cases h1 : zi Z i k = AN
      · rw [h1, A_sm, AN_is]; omega
      by_cases h2 : zi Z k j = AN
      · rw [h2, sm_A, AN_is]; omega
      have := sm_bd h1 h2
      omega
    unfold fw
    omega
  have row : ∀ i (Y : Nat → Int32), i < m → (∀ a b, a < m → b < m → zi Y a b = if a < i then fw k (zi Z) a b else zi Z a b) → ∀ a b, a < m → b < m → zi (cl3 m k i Y) a b = if a < i + 1 then fw k (zi Z) a b else zi Z a b := by
    intro i Y hi hY
    have h := it_inv (cs k i) (fun j W => ∀ a b, a < m → b < m → zi W a b = if a < i ∨ (a = i ∧ b < j) then fw k (zi Z) a b else zi Z a b) m (fun j W hj hW => by
      have rW : rg m (2 * B + 1) (zi W) := fun a b ha hb => by
        rw [hW a b ha hb]
        split
        · exact frg a b ha hb
        · have := hr a b ha hb
          omega
      have w1 : zi W i k = zi Z i k := by
        rw [hW i k hi hk]
        split
        · exact colk i
        · rfl
      have w2 : zi W k j = zi Z k j := by
        rw [hW k j hk hj]
        split
        · exact rowk j
        · rfl
      have w3 : zi W i j = zi Z i j := by
        rw [hW i j hi hj, if_neg (by omega)]
      intro a b ha hb
      rw [cs_zi hm hk hi hj (by omega) rW (by omega)]
      by_cases h : a = i ∧ b = j
      · rw [if_pos h, if_pos (by omega), w1, w2, w3, h.1, h.2]
        rfl
      · rw [if_neg h, hW a b ha hb]
        by_cases g : a < i ∨ (a = i ∧ b < j)
        · rw [if_pos g, if_pos (by omega)]
        · rw [if_neg g, if_neg (by omega)]) m 0 Y (by omega) (fun a b ha hb => by
      rw [hY a b ha hb]
      by_cases g : a < i
      · rw [if_pos g, if_pos (by omega)]
      · rw [if_neg g, if_neg (by omega)])
    intro a b ha hb
    show zi (it (cs k i) 0 m Y) a b = _
    rw [h a b ha hb]
    by_cases g : a < i + 1
    · rw [if_pos g, if_pos (by omega)]
    · rw [if_neg g, if_neg (by omega)]
  have h := it_inv (cl3 m k) (fun i W => ∀ a b, a < m → b < m → zi W a b = if a < i then fw k (zi Z) a b else zi Z a b) m (fun i W hi hW => row i W hi hW) m 0 Z (by omega) (fun a b _ _ => by rw [if_neg (by omega)])
  have e := h a b ha hb
  rw [if_pos ha] at e
  exact e
/-- closing never loosens a bound -/
theorem cs_le (k i j : Nat) (Z : Nat → Int32) (a : Nat) : (cs k i j Z a).toInt ≤ (Z a).toInt := by
  unfold cs fu
  by_cases h : a = 5 * i + j
  · rw [if_pos h, h]
    by_cases hc : Z (5 * i + j) ≤ Mo_sum_f (Z (5 * i + k)) (Z (5 * k + j))
    · rw [if_pos hc]; exact Int.le_refl _
    · rw [if_neg hc]
      have : ¬ ((Z (5 * i + j)).toInt ≤ (Mo_sum_f (Z (5 * i + k)) (Z (5 * k + j))).toInt) := fun t => hc (i32_le.mpr t)
      omega
  · rw [if_neg h]; exact Int.le_refl _
theorem cl2_le (m k : Nat) (Z : Nat → Int32) (a : Nat) : (cl2 m k Z a).toInt ≤ (Z a).toInt := by
  have h3 : ∀ i (Y : Nat → Int32), (cl3 m k i Y a).toInt ≤ (Y a).toInt := fun i Y =>
    it_inv (cs k i) (fun _ W => (W a).toInt ≤ (Y a).toInt) m (fun j W _ h => Int.le_trans (cs_le k i j W a) h) m 0 Y (by omega) (Int.le_refl _)
  exact it_inv (cl3 m k) (fun _ W => (W a).toInt ≤ (Z a).toInt) m (fun i W _ h => Int.le_trans (h3 i W) h) m 0 Z (by omega) (Int.le_refl _)
theorem it_le (m : Nat) : ∀ d k (Z : Nat → Int32) (a : Nat), (it (cl2 m) k d Z a).toInt ≤ (Z a).toInt := by
  intro d
  induction d with
  | zero => intro k Z a; exact Int.le_refl _
  | succ d ih => intro k Z a; exact Int.le_trans (ih (k + 1) (cl2 m k Z) a) (cl2_le m k Z a)
theorem em_is (m : Nat) (Z : Nat → Int32) : (em m Z 0 = 0 ∧ ∀ i, i < m → 1 ≤ zi Z i i) ∨ (em m Z 0 = 1 ∧ ∃ i, i < m ∧ zi Z i i < 1) := by
  have e6 : ∀ i, zi Z i i = (Z (6 * i)).toInt := fun i => by
    unfold zi
    rw [show 5 * i + i = 6 * i by omega]
  have h := it_inv (em1 Z) (fun k e => (e = 0 ∧ ∀ i, i < k → 1 ≤ zi Z i i) ∨ (e = 1 ∧ ∃ i, i < k ∧ zi Z i i < 1)) m (fun k e _ hq => by
    unfold em1
    rcases hq with ⟨h1, h2⟩ | ⟨h1, i, h2, h3⟩
    · rw [if_pos h1]
      by_cases hz : 1 ≤ Z (6 * k)
      · rw [if_pos hz]
        refine Or.inl ⟨rfl, fun i hi => ?_⟩
        by_cases hik : i = k
        · rw [hik, e6]
          exact i32_le.mp hz
        · exact h2 i (by omega)
      · rw [if_neg hz]
        refine Or.inr ⟨rfl, k, by omega, ?_⟩
        have : ¬ (((1 : Int32)).toInt ≤ (Z (6 * k)).toInt) := fun t => hz (i32_le.mpr t)
        have o : (1 : Int32).toInt = 1 := by decide
        rw [e6]
        omega
    · rw [if_neg (by rw [h1]; decide)]
      exact Or.inr ⟨rfl, i, by omega, h3⟩) m 0 0 (by omega) (Or.inl ⟨rfl, fun i hi => by omega⟩)
  exact h
